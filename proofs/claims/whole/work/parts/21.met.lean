theorem dX7_mayBeInScheme_0 : decode cX7_mayBeInScheme 0 = .ok (.iload_n 0, 1) := by decide +kernel
theorem dX7_mayBeInScheme_1 : decode cX7_mayBeInScheme 1 = .ok (.invokestatic 110, 3) := by decide +kernel
theorem dX7_mayBeInScheme_4 : decode cX7_mayBeInScheme 4 = .ok (.ifCond .ne 28, 3) := by decide +kernel
theorem dX7_mayBeInScheme_7 : decode cX7_mayBeInScheme 7 = .ok (.iload_n 0, 1) := by decide +kernel
theorem dX7_mayBeInScheme_8 : decode cX7_mayBeInScheme 8 = .ok (.invokestatic 116, 3) := by decide +kernel
theorem dX7_mayBeInScheme_11 : decode cX7_mayBeInScheme 11 = .ok (.ifCond .ne 21, 3) := by decide +kernel
theorem dX7_mayBeInScheme_14 : decode cX7_mayBeInScheme 14 = .ok (.iload_n 0, 1) := by decide +kernel
theorem dX7_mayBeInScheme_15 : decode cX7_mayBeInScheme 15 = .ok (.bipush 43, 2) := by decide +kernel
theorem dX7_mayBeInScheme_17 : decode cX7_mayBeInScheme 17 = .ok (.if_icmp .eq 15, 3) := by decide +kernel
theorem dX7_mayBeInScheme_20 : decode cX7_mayBeInScheme 20 = .ok (.iload_n 0, 1) := by decide +kernel
theorem dX7_mayBeInScheme_21 : decode cX7_mayBeInScheme 21 = .ok (.bipush 45, 2) := by decide +kernel
theorem dX7_mayBeInScheme_23 : decode cX7_mayBeInScheme 23 = .ok (.if_icmp .eq 9, 3) := by decide +kernel
theorem dX7_mayBeInScheme_26 : decode cX7_mayBeInScheme 26 = .ok (.iload_n 0, 1) := by decide +kernel
theorem dX7_mayBeInScheme_27 : decode cX7_mayBeInScheme 27 = .ok (.bipush 46, 2) := by decide +kernel
theorem dX7_mayBeInScheme_29 : decode cX7_mayBeInScheme 29 = .ok (.if_icmp .ne 7, 3) := by decide +kernel
theorem dX7_mayBeInScheme_32 : decode cX7_mayBeInScheme 32 = .ok (.iconst 1, 1) := by decide +kernel
theorem dX7_mayBeInScheme_33 : decode cX7_mayBeInScheme 33 = .ok (.goto 4, 3) := by decide +kernel
theorem dX7_mayBeInScheme_36 : decode cX7_mayBeInScheme 36 = .ok (.iconst 0, 1) := by decide +kernel
theorem dX7_mayBeInScheme_37 : decode cX7_mayBeInScheme 37 = .ok (.ireturn, 1) := by decide +kernel
theorem dX7_schemeEnd_0 : decode cX7_schemeEnd 0 = .ok (.aload_n 0, 1) := by decide +kernel
theorem dX7_schemeEnd_1 : decode cX7_schemeEnd 1 = .ok (.getfield 12, 3) := by decide +kernel
theorem dX7_schemeEnd_4 : decode cX7_schemeEnd 4 = .ok (.iconst 0, 1) := by decide +kernel
theorem dX7_schemeEnd_5 : decode cX7_schemeEnd 5 = .ok (.invokevirtual 61, 3) := by decide +kernel
theorem dX7_schemeEnd_8 : decode cX7_schemeEnd 8 = .ok (.invokestatic 110, 3) := by decide +kernel
theorem dX7_schemeEnd_11 : decode cX7_schemeEnd 11 = .ok (.ifCond .ne 5, 3) := by decide +kernel
theorem dX7_schemeEnd_14 : decode cX7_schemeEnd 14 = .ok (.iconst (-1), 1) := by decide +kernel
theorem dX7_schemeEnd_15 : decode cX7_schemeEnd 15 = .ok (.ireturn, 1) := by decide +kernel
theorem dX7_schemeEnd_16 : decode cX7_schemeEnd 16 = .ok (.iconst 1, 1) := by decide +kernel
theorem dX7_schemeEnd_17 : decode cX7_schemeEnd 17 = .ok (.istore_n 1, 1) := by decide +kernel
theorem dX7_schemeEnd_18 : decode cX7_schemeEnd 18 = .ok (.iload_n 1, 1) := by decide +kernel
theorem dX7_schemeEnd_19 : decode cX7_schemeEnd 19 = .ok (.aload_n 0, 1) := by decide +kernel
theorem dX7_schemeEnd_20 : decode cX7_schemeEnd 20 = .ok (.getfield 12, 3) := by decide +kernel
theorem dX7_schemeEnd_23 : decode cX7_schemeEnd 23 = .ok (.getfield 81, 3) := by decide +kernel
theorem dX7_schemeEnd_26 : decode cX7_schemeEnd 26 = .ok (.if_icmp .ge 23, 3) := by decide +kernel
theorem dX7_schemeEnd_29 : decode cX7_schemeEnd 29 = .ok (.aload_n 0, 1) := by decide +kernel
theorem dX7_schemeEnd_30 : decode cX7_schemeEnd 30 = .ok (.getfield 12, 3) := by decide +kernel
theorem dX7_schemeEnd_33 : decode cX7_schemeEnd 33 = .ok (.iload_n 1, 1) := by decide +kernel
theorem dX7_schemeEnd_34 : decode cX7_schemeEnd 34 = .ok (.invokevirtual 61, 3) := by decide +kernel
theorem dX7_schemeEnd_37 : decode cX7_schemeEnd 37 = .ok (.invokestatic 113, 3) := by decide +kernel
theorem dX7_schemeEnd_40 : decode cX7_schemeEnd 40 = .ok (.ifCond .eq 9, 3) := by decide +kernel
theorem dX7_schemeEnd_43 : decode cX7_schemeEnd 43 = .ok (.iinc 1 1, 3) := by decide +kernel
theorem dX7_schemeEnd_46 : decode cX7_schemeEnd 46 = .ok (.goto (-28), 3) := by decide +kernel
theorem dX7_schemeEnd_49 : decode cX7_schemeEnd 49 = .ok (.aload_n 0, 1) := by decide +kernel
theorem dX7_schemeEnd_50 : decode cX7_schemeEnd 50 = .ok (.getfield 12, 3) := by decide +kernel
theorem dX7_schemeEnd_53 : decode cX7_schemeEnd 53 = .ok (.iload_n 1, 1) := by decide +kernel
theorem dX7_schemeEnd_54 : decode cX7_schemeEnd 54 = .ok (.invokevirtual 61, 3) := by decide +kernel
theorem dX7_schemeEnd_57 : decode cX7_schemeEnd 57 = .ok (.bipush 58, 2) := by decide +kernel
theorem dX7_schemeEnd_59 : decode cX7_schemeEnd 59 = .ok (.if_icmp .ne 7, 3) := by decide +kernel
theorem dX7_schemeEnd_62 : decode cX7_schemeEnd 62 = .ok (.iload_n 1, 1) := by decide +kernel
theorem dX7_schemeEnd_63 : decode cX7_schemeEnd 63 = .ok (.goto 4, 3) := by decide +kernel
theorem dX7_schemeEnd_66 : decode cX7_schemeEnd 66 = .ok (.iconst (-1), 1) := by decide +kernel
theorem dX7_schemeEnd_67 : decode cX7_schemeEnd 67 = .ok (.ireturn, 1) := by decide +kernel
theorem dX6_nameOf_0 : decode cX6_nameOf 0 = .ok (.iload_n 0, 1) := by decide +kernel
theorem dX6_nameOf_1 : decode cX6_nameOf 1 = .ok (.tableswitch 43 0 3 #[31, 34, 37, 40], 31) := by decide +kernel
theorem dX6_nameOf_32 : decode cX6_nameOf 32 = .ok (.ldc 57, 2) := by decide +kernel
theorem dX6_nameOf_34 : decode cX6_nameOf 34 = .ok (.areturn, 1) := by decide +kernel
theorem dX6_nameOf_35 : decode cX6_nameOf 35 = .ok (.ldc 59, 2) := by decide +kernel
theorem dX6_nameOf_37 : decode cX6_nameOf 37 = .ok (.areturn, 1) := by decide +kernel
theorem dX6_nameOf_38 : decode cX6_nameOf 38 = .ok (.ldc 61, 2) := by decide +kernel
theorem dX6_nameOf_40 : decode cX6_nameOf 40 = .ok (.areturn, 1) := by decide +kernel
theorem dX6_nameOf_41 : decode cX6_nameOf 41 = .ok (.ldc 63, 2) := by decide +kernel
theorem dX6_nameOf_43 : decode cX6_nameOf 43 = .ok (.areturn, 1) := by decide +kernel
theorem dX6_nameOf_44 : decode cX6_nameOf 44 = .ok (.ldc 65, 2) := by decide +kernel
theorem dX6_nameOf_46 : decode cX6_nameOf 46 = .ok (.areturn, 1) := by decide +kernel
theorem dJ0_coder_7d493_0 : decode cJ0_coder_7d493 0 = .ok (.getstatic 38, 3) := by decide +kernel
theorem dJ0_coder_7d493_3 : decode cJ0_coder_7d493 3 = .ok (.ifCond .eq 10, 3) := by decide +kernel
theorem dJ0_coder_7d493_6 : decode cJ0_coder_7d493 6 = .ok (.aload_n 0, 1) := by decide +kernel
theorem dJ0_coder_7d493_7 : decode cJ0_coder_7d493 7 = .ok (.getfield 15, 3) := by decide +kernel
theorem dJ0_coder_7d493_10 : decode cJ0_coder_7d493 10 = .ok (.goto 4, 3) := by decide +kernel
theorem dJ0_coder_7d493_14 : decode cJ0_coder_7d493 14 = .ok (.ireturn, 1) := by decide +kernel
theorem dJ0_length_8abf5_0 : decode cJ0_length_8abf5 0 = .ok (.aload_n 0, 1) := by decide +kernel
theorem dJ0_length_8abf5_1 : decode cJ0_length_8abf5 1 = .ok (.getfield 9, 3) := by decide +kernel
theorem dJ0_length_8abf5_4 : decode cJ0_length_8abf5 4 = .ok (.arraylength, 1) := by decide +kernel
theorem dJ0_length_8abf5_5 : decode cJ0_length_8abf5 5 = .ok (.aload_n 0, 1) := by decide +kernel
theorem dJ0_length_8abf5_6 : decode cJ0_length_8abf5 6 = .ok (.invokevirtual 335, 3) := by decide +kernel
theorem dJ0_length_8abf5_9 : decode cJ0_length_8abf5 9 = .ok (.ishr, 1) := by decide +kernel
theorem dJ0_length_8abf5_10 : decode cJ0_length_8abf5 10 = .ok (.ireturn, 1) := by decide +kernel
theorem dJ0_isLatin1_aae02_0 : decode cJ0_isLatin1_aae02 0 = .ok (.getstatic 38, 3) := by decide +kernel
theorem dJ0_isLatin1_aae02_3 : decode cJ0_isLatin1_aae02 3 = .ok (.ifCond .eq 14, 3) := by decide +kernel
theorem dJ0_isLatin1_aae02_6 : decode cJ0_isLatin1_aae02 6 = .ok (.aload_n 0, 1) := by decide +kernel
theorem dJ0_isLatin1_aae02_7 : decode cJ0_isLatin1_aae02 7 = .ok (.getfield 15, 3) := by decide +kernel
theorem dJ0_isLatin1_aae02_10 : decode cJ0_isLatin1_aae02 10 = .ok (.ifCond .ne 7, 3) := by decide +kernel
theorem dJ0_isLatin1_aae02_13 : decode cJ0_isLatin1_aae02 13 = .ok (.iconst 1, 1) := by decide +kernel
theorem dJ0_isLatin1_aae02_14 : decode cJ0_isLatin1_aae02 14 = .ok (.goto 4, 3) := by decide +kernel
theorem dJ0_isLatin1_aae02_17 : decode cJ0_isLatin1_aae02 17 = .ok (.iconst 0, 1) := by decide +kernel
theorem dJ0_isLatin1_aae02_18 : decode cJ0_isLatin1_aae02 18 = .ok (.ireturn, 1) := by decide +kernel
theorem dJ3_checkIndex_8e157_0 : decode cJ3_checkIndex_8e157 0 = .ok (.iload_n 0, 1) := by decide +kernel
theorem dJ3_checkIndex_8e157_1 : decode cJ3_checkIndex_8e157 1 = .ok (.ifCond .lt 8, 3) := by decide +kernel
theorem dJ3_checkIndex_8e157_4 : decode cJ3_checkIndex_8e157 4 = .ok (.iload_n 0, 1) := by decide +kernel
theorem dJ3_checkIndex_8e157_5 : decode cJ3_checkIndex_8e157 5 = .ok (.iload_n 1, 1) := by decide +kernel
theorem dJ3_checkIndex_8e157_6 : decode cJ3_checkIndex_8e157 6 = .ok (.if_icmp .lt 10, 3) := by decide +kernel
theorem dJ3_checkIndex_8e157_16 : decode cJ3_checkIndex_8e157 16 = .ok (.iload_n 0, 1) := by decide +kernel
theorem dJ3_checkIndex_8e157_17 : decode cJ3_checkIndex_8e157 17 = .ok (.ireturn, 1) := by decide +kernel
theorem dJ0_checkIndex_df160_0 : decode cJ0_checkIndex_df160 0 = .ok (.iload_n 0, 1) := by decide +kernel
theorem dJ0_checkIndex_df160_1 : decode cJ0_checkIndex_df160 1 = .ok (.iload_n 1, 1) := by decide +kernel
theorem dJ0_checkIndex_df160_2 : decode cJ0_checkIndex_df160 2 = .ok (.getstatic 1053, 3) := by decide +kernel
theorem dJ0_checkIndex_df160_5 : decode cJ0_checkIndex_df160 5 = .ok (.invokestatic 1059, 3) := by decide +kernel
theorem dJ0_checkIndex_df160_8 : decode cJ0_checkIndex_df160 8 = .ok (.pop, 1) := by decide +kernel
theorem dJ0_checkIndex_df160_9 : decode cJ0_checkIndex_df160 9 = .ok (.return_, 1) := by decide +kernel
theorem dJ1_charAt_3b067_0 : decode cJ1_charAt_3b067 0 = .ok (.iload_n 1, 1) := by decide +kernel
theorem dJ1_charAt_3b067_1 : decode cJ1_charAt_3b067 1 = .ok (.aload_n 0, 1) := by decide +kernel
theorem dJ1_charAt_3b067_2 : decode cJ1_charAt_3b067 2 = .ok (.arraylength, 1) := by decide +kernel
theorem dJ1_charAt_3b067_3 : decode cJ1_charAt_3b067 3 = .ok (.invokestatic 9, 3) := by decide +kernel
theorem dJ1_charAt_3b067_6 : decode cJ1_charAt_3b067 6 = .ok (.aload_n 0, 1) := by decide +kernel
theorem dJ1_charAt_3b067_7 : decode cJ1_charAt_3b067 7 = .ok (.iload_n 1, 1) := by decide +kernel
theorem dJ1_charAt_3b067_8 : decode cJ1_charAt_3b067 8 = .ok (.baload, 1) := by decide +kernel
theorem dJ1_charAt_3b067_9 : decode cJ1_charAt_3b067 9 = .ok (.sipush 255, 3) := by decide +kernel
theorem dJ1_charAt_3b067_12 : decode cJ1_charAt_3b067 12 = .ok (.iand, 1) := by decide +kernel
theorem dJ1_charAt_3b067_13 : decode cJ1_charAt_3b067 13 = .ok (.i2c, 1) := by decide +kernel
theorem dJ1_charAt_3b067_14 : decode cJ1_charAt_3b067 14 = .ok (.ireturn, 1) := by decide +kernel
theorem dJ0_charAt_5068e_0 : decode cJ0_charAt_5068e 0 = .ok (.aload_n 0, 1) := by decide +kernel
theorem dJ0_charAt_5068e_1 : decode cJ0_charAt_5068e 1 = .ok (.invokevirtual 492, 3) := by decide +kernel
theorem dJ0_charAt_5068e_4 : decode cJ0_charAt_5068e 4 = .ok (.ifCond .eq 12, 3) := by decide +kernel
theorem dJ0_charAt_5068e_7 : decode cJ0_charAt_5068e 7 = .ok (.aload_n 0, 1) := by decide +kernel
theorem dJ0_charAt_5068e_8 : decode cJ0_charAt_5068e 8 = .ok (.getfield 9, 3) := by decide +kernel
theorem dJ0_charAt_5068e_11 : decode cJ0_charAt_5068e 11 = .ok (.iload_n 1, 1) := by decide +kernel
theorem dJ0_charAt_5068e_12 : decode cJ0_charAt_5068e 12 = .ok (.invokestatic 495, 3) := by decide +kernel
theorem dJ0_charAt_5068e_15 : decode cJ0_charAt_5068e 15 = .ok (.ireturn, 1) := by decide +kernel
theorem dX5_addText_0 : decode cX5_addText 0 = .ok (.iconst 0, 1) := by decide +kernel
theorem dX5_addText_1 : decode cX5_addText 1 = .ok (.istore_n 2, 1) := by decide +kernel
theorem dX5_addText_2 : decode cX5_addText 2 = .ok (.iload_n 2, 1) := by decide +kernel
theorem dX5_addText_3 : decode cX5_addText 3 = .ok (.aload_n 1, 1) := by decide +kernel
theorem dX5_addText_4 : decode cX5_addText 4 = .ok (.invokevirtual 33, 3) := by decide +kernel
theorem dX5_addText_7 : decode cX5_addText 7 = .ok (.if_icmp .ge 18, 3) := by decide +kernel
theorem dX5_addText_10 : decode cX5_addText 10 = .ok (.aload_n 0, 1) := by decide +kernel
theorem dX5_addText_11 : decode cX5_addText 11 = .ok (.aload_n 1, 1) := by decide +kernel
theorem dX5_addText_12 : decode cX5_addText 12 = .ok (.iload_n 2, 1) := by decide +kernel
theorem dX5_addText_13 : decode cX5_addText 13 = .ok (.invokevirtual 38, 3) := by decide +kernel
theorem dX5_addText_16 : decode cX5_addText 16 = .ok (.invokevirtual 29, 3) := by decide +kernel
theorem dX5_addText_19 : decode cX5_addText 19 = .ok (.iinc 2 1, 3) := by decide +kernel
theorem dX5_addText_22 : decode cX5_addText 22 = .ok (.goto (-20), 3) := by decide +kernel
theorem dX5_addText_25 : decode cX5_addText 25 = .ok (.return_, 1) := by decide +kernel
theorem dX6_setScheme_0 : decode cX6_setScheme 0 = .ok (.aload_n 0, 1) := by decide +kernel
theorem dX6_setScheme_1 : decode cX6_setScheme 1 = .ok (.iload_n 1, 1) := by decide +kernel
theorem dX6_setScheme_2 : decode cX6_setScheme 2 = .ok (.putfield 11, 3) := by decide +kernel
theorem dX6_setScheme_5 : decode cX6_setScheme 5 = .ok (.aload_n 0, 1) := by decide +kernel
theorem dX6_setScheme_6 : decode cX6_setScheme 6 = .ok (.getfield 18, 3) := by decide +kernel
theorem dX6_setScheme_9 : decode cX6_setScheme 9 = .ok (.iconst 0, 1) := by decide +kernel
theorem dX6_setScheme_10 : decode cX6_setScheme 10 = .ok (.invokevirtual 67, 3) := by decide +kernel
theorem dX6_setScheme_13 : decode cX6_setScheme 13 = .ok (.aload_n 0, 1) := by decide +kernel
theorem dX6_setScheme_14 : decode cX6_setScheme 14 = .ok (.getfield 18, 3) := by decide +kernel
theorem dX6_setScheme_17 : decode cX6_setScheme 17 = .ok (.iload_n 1, 1) := by decide +kernel
theorem dX6_setScheme_18 : decode cX6_setScheme 18 = .ok (.invokestatic 71, 3) := by decide +kernel
theorem dX6_setScheme_21 : decode cX6_setScheme 21 = .ok (.invokevirtual 75, 3) := by decide +kernel
theorem dX6_setScheme_24 : decode cX6_setScheme 24 = .ok (.return_, 1) := by decide +kernel
theorem dX1_low_0 : decode cX1_low 0 = .ok (.iload_n 0, 1) := by decide +kernel
theorem dX1_low_1 : decode cX1_low 1 = .ok (.bipush 65, 2) := by decide +kernel
theorem dX1_low_3 : decode cX1_low 3 = .ok (.if_icmp .lt 16, 3) := by decide +kernel
theorem dX1_low_6 : decode cX1_low 6 = .ok (.iload_n 0, 1) := by decide +kernel
theorem dX1_low_7 : decode cX1_low 7 = .ok (.bipush 90, 2) := by decide +kernel
theorem dX1_low_9 : decode cX1_low 9 = .ok (.if_icmp .gt 10, 3) := by decide +kernel
theorem dX1_low_12 : decode cX1_low 12 = .ok (.iload_n 0, 1) := by decide +kernel
theorem dX1_low_13 : decode cX1_low 13 = .ok (.bipush 32, 2) := by decide +kernel
theorem dX1_low_15 : decode cX1_low 15 = .ok (.iadd, 1) := by decide +kernel
theorem dX1_low_16 : decode cX1_low 16 = .ok (.goto 4, 3) := by decide +kernel
theorem dX1_low_19 : decode cX1_low 19 = .ok (.iload_n 0, 1) := by decide +kernel
theorem dX1_low_20 : decode cX1_low 20 = .ok (.ireturn, 1) := by decide +kernel
theorem dX7_isWord_0 : decode cX7_isWord 0 = .ok (.iload_n 1, 1) := by decide +kernel
theorem dX7_isWord_1 : decode cX7_isWord 1 = .ok (.aload_n 2, 1) := by decide +kernel
theorem dX7_isWord_2 : decode cX7_isWord 2 = .ok (.invokevirtual 126, 3) := by decide +kernel
theorem dX7_isWord_5 : decode cX7_isWord 5 = .ok (.if_icmp .eq 5, 3) := by decide +kernel
theorem dX7_isWord_8 : decode cX7_isWord 8 = .ok (.iconst 0, 1) := by decide +kernel
theorem dX7_isWord_9 : decode cX7_isWord 9 = .ok (.ireturn, 1) := by decide +kernel
theorem dX7_isWord_10 : decode cX7_isWord 10 = .ok (.iconst 0, 1) := by decide +kernel
theorem dX7_isWord_11 : decode cX7_isWord 11 = .ok (.istore_n 3, 1) := by decide +kernel
theorem dX7_isWord_12 : decode cX7_isWord 12 = .ok (.iload_n 3, 1) := by decide +kernel
theorem dX7_isWord_13 : decode cX7_isWord 13 = .ok (.aload_n 2, 1) := by decide +kernel
theorem dX7_isWord_14 : decode cX7_isWord 14 = .ok (.invokevirtual 126, 3) := by decide +kernel
theorem dX7_isWord_17 : decode cX7_isWord 17 = .ok (.if_icmp .ge 30, 3) := by decide +kernel
theorem dX7_isWord_20 : decode cX7_isWord 20 = .ok (.aload_n 0, 1) := by decide +kernel
theorem dX7_isWord_21 : decode cX7_isWord 21 = .ok (.getfield 12, 3) := by decide +kernel
theorem dX7_isWord_24 : decode cX7_isWord 24 = .ok (.iload_n 3, 1) := by decide +kernel
theorem dX7_isWord_25 : decode cX7_isWord 25 = .ok (.invokevirtual 61, 3) := by decide +kernel
theorem dX7_isWord_28 : decode cX7_isWord 28 = .ok (.invokestatic 130, 3) := by decide +kernel
theorem dX7_isWord_31 : decode cX7_isWord 31 = .ok (.aload_n 2, 1) := by decide +kernel
theorem dX7_isWord_32 : decode cX7_isWord 32 = .ok (.iload_n 3, 1) := by decide +kernel
theorem dX7_isWord_33 : decode cX7_isWord 33 = .ok (.invokevirtual 133, 3) := by decide +kernel
theorem dX7_isWord_36 : decode cX7_isWord 36 = .ok (.if_icmp .eq 5, 3) := by decide +kernel
theorem dX7_isWord_39 : decode cX7_isWord 39 = .ok (.iconst 0, 1) := by decide +kernel
theorem dX7_isWord_40 : decode cX7_isWord 40 = .ok (.ireturn, 1) := by decide +kernel
theorem dX7_isWord_41 : decode cX7_isWord 41 = .ok (.iinc 3 1, 3) := by decide +kernel
theorem dX7_isWord_44 : decode cX7_isWord 44 = .ok (.goto (-32), 3) := by decide +kernel
theorem dX7_isWord_47 : decode cX7_isWord 47 = .ok (.iconst 1, 1) := by decide +kernel
theorem dX7_isWord_48 : decode cX7_isWord 48 = .ok (.ireturn, 1) := by decide +kernel
theorem dX7_schemeUpTo_0 : decode cX7_schemeUpTo 0 = .ok (.iconst 0, 1) := by decide +kernel
theorem dX7_schemeUpTo_1 : decode cX7_schemeUpTo 1 = .ok (.istore_n 2, 1) := by decide +kernel
theorem dX7_schemeUpTo_2 : decode cX7_schemeUpTo 2 = .ok (.iload_n 2, 1) := by decide +kernel
theorem dX7_schemeUpTo_3 : decode cX7_schemeUpTo 3 = .ok (.iconst 5, 1) := by decide +kernel
theorem dX7_schemeUpTo_4 : decode cX7_schemeUpTo 4 = .ok (.if_icmp .ge 23, 3) := by decide +kernel
theorem dX7_schemeUpTo_7 : decode cX7_schemeUpTo 7 = .ok (.aload_n 0, 1) := by decide +kernel
theorem dX7_schemeUpTo_8 : decode cX7_schemeUpTo 8 = .ok (.iload_n 1, 1) := by decide +kernel
theorem dX7_schemeUpTo_9 : decode cX7_schemeUpTo 9 = .ok (.iload_n 2, 1) := by decide +kernel
theorem dX7_schemeUpTo_10 : decode cX7_schemeUpTo 10 = .ok (.invokestatic 119, 3) := by decide +kernel
theorem dX7_schemeUpTo_13 : decode cX7_schemeUpTo 13 = .ok (.invokevirtual 123, 3) := by decide +kernel
theorem dX7_schemeUpTo_16 : decode cX7_schemeUpTo 16 = .ok (.ifCond .eq 5, 3) := by decide +kernel
theorem dX7_schemeUpTo_19 : decode cX7_schemeUpTo 19 = .ok (.iload_n 2, 1) := by decide +kernel
theorem dX7_schemeUpTo_20 : decode cX7_schemeUpTo 20 = .ok (.ireturn, 1) := by decide +kernel
theorem dX7_schemeUpTo_21 : decode cX7_schemeUpTo 21 = .ok (.iinc 2 1, 3) := by decide +kernel
theorem dX7_schemeUpTo_24 : decode cX7_schemeUpTo 24 = .ok (.goto (-22), 3) := by decide +kernel
theorem dX7_schemeUpTo_27 : decode cX7_schemeUpTo 27 = .ok (.iconst (-1), 1) := by decide +kernel
theorem dX7_schemeUpTo_28 : decode cX7_schemeUpTo 28 = .ok (.ireturn, 1) := by decide +kernel
theorem dX5_hasAt_0 : decode cX5_hasAt 0 = .ok (.iconst 0, 1) := by decide +kernel
theorem dX5_hasAt_1 : decode cX5_hasAt 1 = .ok (.istore_n 3, 1) := by decide +kernel
theorem dX5_hasAt_2 : decode cX5_hasAt 2 = .ok (.iload_n 3, 1) := by decide +kernel
theorem dX5_hasAt_3 : decode cX5_hasAt 3 = .ok (.aload_n 2, 1) := by decide +kernel
theorem dX5_hasAt_4 : decode cX5_hasAt 4 = .ok (.invokevirtual 33, 3) := by decide +kernel
theorem dX5_hasAt_7 : decode cX5_hasAt 7 = .ok (.if_icmp .ge 26, 3) := by decide +kernel
theorem dX5_hasAt_10 : decode cX5_hasAt 10 = .ok (.aload_n 0, 1) := by decide +kernel
theorem dX5_hasAt_11 : decode cX5_hasAt 11 = .ok (.iload_n 1, 1) := by decide +kernel
theorem dX5_hasAt_12 : decode cX5_hasAt 12 = .ok (.iload_n 3, 1) := by decide +kernel
theorem dX5_hasAt_13 : decode cX5_hasAt 13 = .ok (.iadd, 1) := by decide +kernel
theorem dX5_hasAt_14 : decode cX5_hasAt 14 = .ok (.invokevirtual 25, 3) := by decide +kernel
theorem dX5_hasAt_17 : decode cX5_hasAt 17 = .ok (.aload_n 2, 1) := by decide +kernel
theorem dX5_hasAt_18 : decode cX5_hasAt 18 = .ok (.iload_n 3, 1) := by decide +kernel
theorem dX5_hasAt_19 : decode cX5_hasAt 19 = .ok (.invokevirtual 38, 3) := by decide +kernel
theorem dX5_hasAt_22 : decode cX5_hasAt 22 = .ok (.if_icmp .eq 5, 3) := by decide +kernel
theorem dX5_hasAt_25 : decode cX5_hasAt 25 = .ok (.iconst 0, 1) := by decide +kernel
theorem dX5_hasAt_26 : decode cX5_hasAt 26 = .ok (.ireturn, 1) := by decide +kernel
theorem dX5_hasAt_27 : decode cX5_hasAt 27 = .ok (.iinc 3 1, 3) := by decide +kernel
theorem dX5_hasAt_30 : decode cX5_hasAt 30 = .ok (.goto (-28), 3) := by decide +kernel
theorem dX5_hasAt_33 : decode cX5_hasAt 33 = .ok (.iconst 1, 1) := by decide +kernel
theorem dX5_hasAt_34 : decode cX5_hasAt 34 = .ok (.ireturn, 1) := by decide +kernel
theorem dX7_readScheme_0 : decode cX7_readScheme 0 = .ok (.aload_n 0, 1) := by decide +kernel
theorem dX7_readScheme_1 : decode cX7_readScheme 1 = .ok (.invokevirtual 91, 3) := by decide +kernel
theorem dX7_readScheme_4 : decode cX7_readScheme 4 = .ok (.istore_n 3, 1) := by decide +kernel
theorem dX7_readScheme_5 : decode cX7_readScheme 5 = .ok (.iload_n 3, 1) := by decide +kernel
theorem dX7_readScheme_6 : decode cX7_readScheme 6 = .ok (.iconst (-1), 1) := by decide +kernel
theorem dX7_readScheme_7 : decode cX7_readScheme 7 = .ok (.if_icmp .ne 25, 3) := by decide +kernel
theorem dX7_readScheme_10 : decode cX7_readScheme 10 = .ok (.aload_n 1, 1) := by decide +kernel
theorem dX7_readScheme_11 : decode cX7_readScheme 11 = .ok (.ifnonnull 6, 3) := by decide +kernel
theorem dX7_readScheme_14 : decode cX7_readScheme 14 = .ok (.bipush (-11), 2) := by decide +kernel
theorem dX7_readScheme_16 : decode cX7_readScheme 16 = .ok (.ireturn, 1) := by decide +kernel
theorem dX7_readScheme_17 : decode cX7_readScheme 17 = .ok (.aload_n 0, 1) := by decide +kernel
theorem dX7_readScheme_18 : decode cX7_readScheme 18 = .ok (.iconst 0, 1) := by decide +kernel
theorem dX7_readScheme_19 : decode cX7_readScheme 19 = .ok (.putfield 18, 3) := by decide +kernel
theorem dX7_readScheme_22 : decode cX7_readScheme 22 = .ok (.aload_n 2, 1) := by decide +kernel
theorem dX7_readScheme_23 : decode cX7_readScheme 23 = .ok (.aload_n 1, 1) := by decide +kernel
theorem dX7_readScheme_24 : decode cX7_readScheme 24 = .ok (.getfield 95, 3) := by decide +kernel
theorem dX7_readScheme_27 : decode cX7_readScheme 27 = .ok (.invokevirtual 98, 3) := by decide +kernel
theorem dX7_readScheme_30 : decode cX7_readScheme 30 = .ok (.iconst 1, 1) := by decide +kernel
theorem dX7_readScheme_31 : decode cX7_readScheme 31 = .ok (.ireturn, 1) := by decide +kernel
theorem dX7_readScheme_32 : decode cX7_readScheme 32 = .ok (.aload_n 0, 1) := by decide +kernel
theorem dX7_readScheme_33 : decode cX7_readScheme 33 = .ok (.iload_n 3, 1) := by decide +kernel
theorem dX7_readScheme_34 : decode cX7_readScheme 34 = .ok (.invokevirtual 101, 3) := by decide +kernel
theorem dX7_readScheme_37 : decode cX7_readScheme 37 = .ok (.istore 4, 2) := by decide +kernel
theorem dX7_readScheme_39 : decode cX7_readScheme 39 = .ok (.iload 4, 2) := by decide +kernel
theorem dX7_readScheme_41 : decode cX7_readScheme 41 = .ok (.iconst (-1), 1) := by decide +kernel
theorem dX7_readScheme_42 : decode cX7_readScheme 42 = .ok (.if_icmp .ne 6, 3) := by decide +kernel
theorem dX7_readScheme_45 : decode cX7_readScheme 45 = .ok (.bipush (-12), 2) := by decide +kernel
theorem dX7_readScheme_47 : decode cX7_readScheme 47 = .ok (.ireturn, 1) := by decide +kernel
theorem dX7_readScheme_48 : decode cX7_readScheme 48 = .ok (.aload_n 0, 1) := by decide +kernel
theorem dX7_readScheme_49 : decode cX7_readScheme 49 = .ok (.iload_n 3, 1) := by decide +kernel
theorem dX7_readScheme_50 : decode cX7_readScheme 50 = .ok (.iconst 1, 1) := by decide +kernel
theorem dX7_readScheme_51 : decode cX7_readScheme 51 = .ok (.iadd, 1) := by decide +kernel
theorem dX7_readScheme_52 : decode cX7_readScheme 52 = .ok (.putfield 18, 3) := by decide +kernel
theorem dX7_readScheme_55 : decode cX7_readScheme 55 = .ok (.aload_n 2, 1) := by decide +kernel
theorem dX7_readScheme_56 : decode cX7_readScheme 56 = .ok (.iload 4, 2) := by decide +kernel
theorem dX7_readScheme_58 : decode cX7_readScheme 58 = .ok (.invokevirtual 98, 3) := by decide +kernel
theorem dX7_readScheme_61 : decode cX7_readScheme 61 = .ok (.aload_n 1, 1) := by decide +kernel
theorem dX7_readScheme_62 : decode cX7_readScheme 62 = .ok (.ifnull 16, 3) := by decide +kernel
theorem dX7_readScheme_65 : decode cX7_readScheme 65 = .ok (.aload_n 1, 1) := by decide +kernel
theorem dX7_readScheme_66 : decode cX7_readScheme 66 = .ok (.getfield 95, 3) := by decide +kernel
theorem dX7_readScheme_69 : decode cX7_readScheme 69 = .ok (.iload 4, 2) := by decide +kernel
theorem dX7_readScheme_71 : decode cX7_readScheme 71 = .ok (.if_icmp .ne 7, 3) := by decide +kernel
theorem dX7_readScheme_74 : decode cX7_readScheme 74 = .ok (.iconst 1, 1) := by decide +kernel
theorem dX7_readScheme_75 : decode cX7_readScheme 75 = .ok (.goto 4, 3) := by decide +kernel
theorem dX7_readScheme_78 : decode cX7_readScheme 78 = .ok (.iconst 0, 1) := by decide +kernel
theorem dX7_readScheme_79 : decode cX7_readScheme 79 = .ok (.istore 5, 2) := by decide +kernel
theorem dX7_readScheme_81 : decode cX7_readScheme 81 = .ok (.iload 5, 2) := by decide +kernel
theorem dX7_readScheme_83 : decode cX7_readScheme 83 = .ok (.ifCond .eq 23, 3) := by decide +kernel
theorem dX7_readScheme_86 : decode cX7_readScheme 86 = .ok (.aload_n 0, 1) := by decide +kernel
theorem dX7_readScheme_87 : decode cX7_readScheme 87 = .ok (.getfield 12, 3) := by decide +kernel
theorem dX7_readScheme_90 : decode cX7_readScheme 90 = .ok (.aload_n 0, 1) := by decide +kernel
theorem dX7_readScheme_91 : decode cX7_readScheme 91 = .ok (.getfield 18, 3) := by decide +kernel
theorem dX7_readScheme_94 : decode cX7_readScheme 94 = .ok (.ldc 104, 2) := by decide +kernel
theorem dX7_readScheme_96 : decode cX7_readScheme 96 = .ok (.invokevirtual 106, 3) := by decide +kernel
theorem dX7_readScheme_99 : decode cX7_readScheme 99 = .ok (.ifCond .ne 7, 3) := by decide +kernel
theorem dX7_readScheme_102 : decode cX7_readScheme 102 = .ok (.iconst 1, 1) := by decide +kernel
theorem dX7_readScheme_103 : decode cX7_readScheme 103 = .ok (.goto 4, 3) := by decide +kernel
theorem dX7_readScheme_106 : decode cX7_readScheme 106 = .ok (.iconst 2, 1) := by decide +kernel
theorem dX7_readScheme_107 : decode cX7_readScheme 107 = .ok (.ireturn, 1) := by decide +kernel
theorem dX1_isSlash_0 : decode cX1_isSlash 0 = .ok (.iload_n 0, 1) := by decide +kernel
theorem dX1_isSlash_1 : decode cX1_isSlash 1 = .ok (.bipush 47, 2) := by decide +kernel
theorem dX1_isSlash_3 : decode cX1_isSlash 3 = .ok (.if_icmp .eq 9, 3) := by decide +kernel
theorem dX1_isSlash_6 : decode cX1_isSlash 6 = .ok (.iload_n 0, 1) := by decide +kernel
theorem dX1_isSlash_7 : decode cX1_isSlash 7 = .ok (.bipush 92, 2) := by decide +kernel
theorem dX1_isSlash_9 : decode cX1_isSlash 9 = .ok (.if_icmp .ne 7, 3) := by decide +kernel
theorem dX1_isSlash_12 : decode cX1_isSlash 12 = .ok (.iconst 1, 1) := by decide +kernel
theorem dX1_isSlash_13 : decode cX1_isSlash 13 = .ok (.goto 4, 3) := by decide +kernel
theorem dX1_isSlash_16 : decode cX1_isSlash 16 = .ok (.iconst 0, 1) := by decide +kernel
theorem dX1_isSlash_17 : decode cX1_isSlash 17 = .ok (.ireturn, 1) := by decide +kernel
theorem dX5_take_0 : decode cX5_take 0 = .ok (.aload_n 1, 1) := by decide +kernel
theorem dX5_take_1 : decode cX5_take 1 = .ok (.getfield 15, 3) := by decide +kernel
theorem dX5_take_4 : decode cX5_take 4 = .ok (.istore_n 2, 1) := by decide +kernel
theorem dX5_take_5 : decode cX5_take 5 = .ok (.aload_n 0, 1) := by decide +kernel
theorem dX5_take_6 : decode cX5_take 6 = .ok (.iconst 0, 1) := by decide +kernel
theorem dX5_take_7 : decode cX5_take 7 = .ok (.putfield 15, 3) := by decide +kernel
theorem dX5_take_10 : decode cX5_take 10 = .ok (.iconst 0, 1) := by decide +kernel
theorem dX5_take_11 : decode cX5_take 11 = .ok (.istore_n 3, 1) := by decide +kernel
theorem dX5_take_12 : decode cX5_take 12 = .ok (.iload_n 3, 1) := by decide +kernel
theorem dX5_take_13 : decode cX5_take 13 = .ok (.iload_n 2, 1) := by decide +kernel
theorem dX5_take_14 : decode cX5_take 14 = .ok (.if_icmp .ge 18, 3) := by decide +kernel
theorem dX5_take_17 : decode cX5_take 17 = .ok (.aload_n 0, 1) := by decide +kernel
theorem dX5_take_18 : decode cX5_take 18 = .ok (.aload_n 1, 1) := by decide +kernel
theorem dX5_take_19 : decode cX5_take 19 = .ok (.iload_n 3, 1) := by decide +kernel
theorem dX5_take_20 : decode cX5_take 20 = .ok (.invokevirtual 25, 3) := by decide +kernel
theorem dX5_take_23 : decode cX5_take 23 = .ok (.invokevirtual 29, 3) := by decide +kernel
theorem dX5_take_26 : decode cX5_take 26 = .ok (.iinc 3 1, 3) := by decide +kernel
theorem dX5_take_29 : decode cX5_take 29 = .ok (.goto (-17), 3) := by decide +kernel
theorem dX5_take_32 : decode cX5_take 32 = .ok (.return_, 1) := by decide +kernel
theorem dX0_setTo_0 : decode cX0_setTo 0 = .ok (.aload_n 0, 1) := by decide +kernel
theorem dX0_setTo_1 : decode cX0_setTo 1 = .ok (.iload_n 1, 1) := by decide +kernel
theorem dX0_setTo_2 : decode cX0_setTo 2 = .ok (.putfield 7, 3) := by decide +kernel
theorem dX0_setTo_5 : decode cX0_setTo 5 = .ok (.aload_n 0, 1) := by decide +kernel
theorem dX0_setTo_6 : decode cX0_setTo 6 = .ok (.getfield 13, 3) := by decide +kernel
theorem dX0_setTo_9 : decode cX0_setTo 9 = .ok (.iconst 0, 1) := by decide +kernel
theorem dX0_setTo_10 : decode cX0_setTo 10 = .ok (.iload_n 1, 1) := by decide +kernel
theorem dX0_setTo_11 : decode cX0_setTo 11 = .ok (.ifCond .ne 7, 3) := by decide +kernel
theorem dX0_setTo_14 : decode cX0_setTo 14 = .ok (.iconst 0, 1) := by decide +kernel
theorem dX0_setTo_15 : decode cX0_setTo 15 = .ok (.goto 4, 3) := by decide +kernel
theorem dX0_setTo_18 : decode cX0_setTo 18 = .ok (.iload_n 2, 1) := by decide +kernel
theorem dX0_setTo_19 : decode cX0_setTo 19 = .ok (.iastore, 1) := by decide +kernel
theorem dX0_setTo_20 : decode cX0_setTo 20 = .ok (.aload_n 0, 1) := by decide +kernel
theorem dX0_setTo_21 : decode cX0_setTo 21 = .ok (.getfield 13, 3) := by decide +kernel
theorem dX0_setTo_24 : decode cX0_setTo 24 = .ok (.iconst 1, 1) := by decide +kernel
theorem dX0_setTo_25 : decode cX0_setTo 25 = .ok (.iload_n 1, 1) := by decide +kernel
theorem dX0_setTo_26 : decode cX0_setTo 26 = .ok (.bipush 6, 2) := by decide +kernel
theorem dX0_setTo_28 : decode cX0_setTo 28 = .ok (.if_icmp .ne 7, 3) := by decide +kernel
theorem dX0_setTo_31 : decode cX0_setTo 31 = .ok (.iload_n 3, 1) := by decide +kernel
theorem dX0_setTo_32 : decode cX0_setTo 32 = .ok (.goto 4, 3) := by decide +kernel
theorem dX0_setTo_35 : decode cX0_setTo 35 = .ok (.iconst 0, 1) := by decide +kernel
theorem dX0_setTo_36 : decode cX0_setTo 36 = .ok (.iastore, 1) := by decide +kernel
theorem dX0_setTo_37 : decode cX0_setTo 37 = .ok (.aload_n 0, 1) := by decide +kernel
theorem dX0_setTo_38 : decode cX0_setTo 38 = .ok (.getfield 13, 3) := by decide +kernel
theorem dX0_setTo_41 : decode cX0_setTo 41 = .ok (.iconst 2, 1) := by decide +kernel
theorem dX0_setTo_42 : decode cX0_setTo 42 = .ok (.iload_n 1, 1) := by decide +kernel
theorem dX0_setTo_43 : decode cX0_setTo 43 = .ok (.bipush 6, 2) := by decide +kernel
theorem dX0_setTo_45 : decode cX0_setTo 45 = .ok (.if_icmp .ne 8, 3) := by decide +kernel
theorem dX0_setTo_48 : decode cX0_setTo 48 = .ok (.iload 4, 2) := by decide +kernel
theorem dX0_setTo_50 : decode cX0_setTo 50 = .ok (.goto 4, 3) := by decide +kernel
theorem dX0_setTo_53 : decode cX0_setTo 53 = .ok (.iconst 0, 1) := by decide +kernel
theorem dX0_setTo_54 : decode cX0_setTo 54 = .ok (.iastore, 1) := by decide +kernel
theorem dX0_setTo_55 : decode cX0_setTo 55 = .ok (.aload_n 0, 1) := by decide +kernel
theorem dX0_setTo_56 : decode cX0_setTo 56 = .ok (.getfield 13, 3) := by decide +kernel
theorem dX0_setTo_59 : decode cX0_setTo 59 = .ok (.iconst 3, 1) := by decide +kernel
theorem dX0_setTo_60 : decode cX0_setTo 60 = .ok (.iload_n 1, 1) := by decide +kernel
theorem dX0_setTo_61 : decode cX0_setTo 61 = .ok (.bipush 6, 2) := by decide +kernel
theorem dX0_setTo_63 : decode cX0_setTo 63 = .ok (.if_icmp .ne 8, 3) := by decide +kernel
theorem dX0_setTo_66 : decode cX0_setTo 66 = .ok (.iload 5, 2) := by decide +kernel
theorem dX0_setTo_68 : decode cX0_setTo 68 = .ok (.goto 4, 3) := by decide +kernel
theorem dX0_setTo_71 : decode cX0_setTo 71 = .ok (.iconst 0, 1) := by decide +kernel
theorem dX0_setTo_72 : decode cX0_setTo 72 = .ok (.iastore, 1) := by decide +kernel
theorem dX0_setTo_73 : decode cX0_setTo 73 = .ok (.return_, 1) := by decide +kernel
theorem dX0_take_0 : decode cX0_take 0 = .ok (.aload_n 0, 1) := by decide +kernel
theorem dX0_take_1 : decode cX0_take 1 = .ok (.aload_n 1, 1) := by decide +kernel
theorem dX0_take_2 : decode cX0_take 2 = .ok (.getfield 7, 3) := by decide +kernel
theorem dX0_take_5 : decode cX0_take 5 = .ok (.aload_n 1, 1) := by decide +kernel
theorem dX0_take_6 : decode cX0_take 6 = .ok (.getfield 13, 3) := by decide +kernel
theorem dX0_take_9 : decode cX0_take 9 = .ok (.iconst 0, 1) := by decide +kernel
theorem dX0_take_10 : decode cX0_take 10 = .ok (.iaload, 1) := by decide +kernel
theorem dX0_take_11 : decode cX0_take 11 = .ok (.aload_n 1, 1) := by decide +kernel
theorem dX0_take_12 : decode cX0_take 12 = .ok (.getfield 13, 3) := by decide +kernel
theorem dX0_take_15 : decode cX0_take 15 = .ok (.iconst 1, 1) := by decide +kernel
theorem dX0_take_16 : decode cX0_take 16 = .ok (.iaload, 1) := by decide +kernel
theorem dX0_take_17 : decode cX0_take 17 = .ok (.aload_n 1, 1) := by decide +kernel
theorem dX0_take_18 : decode cX0_take 18 = .ok (.getfield 13, 3) := by decide +kernel
theorem dX0_take_21 : decode cX0_take 21 = .ok (.iconst 2, 1) := by decide +kernel
theorem dX0_take_22 : decode cX0_take 22 = .ok (.iaload, 1) := by decide +kernel
theorem dX0_take_23 : decode cX0_take 23 = .ok (.aload_n 1, 1) := by decide +kernel
theorem dX0_take_24 : decode cX0_take 24 = .ok (.getfield 13, 3) := by decide +kernel
theorem dX0_take_27 : decode cX0_take 27 = .ok (.iconst 3, 1) := by decide +kernel
theorem dX0_take_28 : decode cX0_take 28 = .ok (.iaload, 1) := by decide +kernel
theorem dX0_take_29 : decode cX0_take 29 = .ok (.invokevirtual 17, 3) := by decide +kernel
theorem dX0_take_32 : decode cX0_take 32 = .ok (.return_, 1) := by decide +kernel
theorem dX3_take_0 : decode cX3_take 0 = .ok (.aload_n 0, 1) := by decide +kernel
theorem dX3_take_1 : decode cX3_take 1 = .ok (.getfield 10, 3) := by decide +kernel
theorem dX3_take_4 : decode cX3_take 4 = .ok (.aload_n 1, 1) := by decide +kernel
theorem dX3_take_5 : decode cX3_take 5 = .ok (.getfield 10, 3) := by decide +kernel
theorem dX3_take_8 : decode cX3_take 8 = .ok (.invokevirtual 27, 3) := by decide +kernel
theorem dX3_take_11 : decode cX3_take 11 = .ok (.aload_n 0, 1) := by decide +kernel
theorem dX3_take_12 : decode cX3_take 12 = .ok (.getfield 19, 3) := by decide +kernel
theorem dX3_take_15 : decode cX3_take 15 = .ok (.aload_n 1, 1) := by decide +kernel
theorem dX3_take_16 : decode cX3_take 16 = .ok (.getfield 19, 3) := by decide +kernel
theorem dX3_take_19 : decode cX3_take 19 = .ok (.invokevirtual 31, 3) := by decide +kernel
theorem dX3_take_22 : decode cX3_take 22 = .ok (.return_, 1) := by decide +kernel
theorem dX6_takeAuthority_0 : decode cX6_takeAuthority 0 = .ok (.aload_n 0, 1) := by decide +kernel
theorem dX6_takeAuthority_1 : decode cX6_takeAuthority 1 = .ok (.getfield 22, 3) := by decide +kernel
theorem dX6_takeAuthority_4 : decode cX6_takeAuthority 4 = .ok (.aload_n 1, 1) := by decide +kernel
theorem dX6_takeAuthority_5 : decode cX6_takeAuthority 5 = .ok (.getfield 22, 3) := by decide +kernel
theorem dX6_takeAuthority_8 : decode cX6_takeAuthority 8 = .ok (.invokevirtual 79, 3) := by decide +kernel
theorem dX6_takeAuthority_11 : decode cX6_takeAuthority 11 = .ok (.aload_n 0, 1) := by decide +kernel
theorem dX6_takeAuthority_12 : decode cX6_takeAuthority 12 = .ok (.getfield 25, 3) := by decide +kernel
theorem dX6_takeAuthority_15 : decode cX6_takeAuthority 15 = .ok (.aload_n 1, 1) := by decide +kernel
theorem dX6_takeAuthority_16 : decode cX6_takeAuthority 16 = .ok (.getfield 25, 3) := by decide +kernel
theorem dX6_takeAuthority_19 : decode cX6_takeAuthority 19 = .ok (.invokevirtual 79, 3) := by decide +kernel
theorem dX6_takeAuthority_22 : decode cX6_takeAuthority 22 = .ok (.aload_n 0, 1) := by decide +kernel
theorem dX6_takeAuthority_23 : decode cX6_takeAuthority 23 = .ok (.getfield 31, 3) := by decide +kernel
theorem dX6_takeAuthority_26 : decode cX6_takeAuthority 26 = .ok (.aload_n 1, 1) := by decide +kernel
theorem dX6_takeAuthority_27 : decode cX6_takeAuthority 27 = .ok (.getfield 31, 3) := by decide +kernel
theorem dX6_takeAuthority_30 : decode cX6_takeAuthority 30 = .ok (.invokevirtual 83, 3) := by decide +kernel
theorem dX6_takeAuthority_33 : decode cX6_takeAuthority 33 = .ok (.aload_n 0, 1) := by decide +kernel
theorem dX6_takeAuthority_34 : decode cX6_takeAuthority 34 = .ok (.aload_n 1, 1) := by decide +kernel
theorem dX6_takeAuthority_35 : decode cX6_takeAuthority 35 = .ok (.getfield 35, 3) := by decide +kernel
theorem dX6_takeAuthority_38 : decode cX6_takeAuthority 38 = .ok (.putfield 35, 3) := by decide +kernel
theorem dX6_takeAuthority_41 : decode cX6_takeAuthority 41 = .ok (.return_, 1) := by decide +kernel
theorem dX6_takePath_0 : decode cX6_takePath 0 = .ok (.aload_n 0, 1) := by decide +kernel
theorem dX6_takePath_1 : decode cX6_takePath 1 = .ok (.getfield 38, 3) := by decide +kernel
theorem dX6_takePath_4 : decode cX6_takePath 4 = .ok (.aload_n 1, 1) := by decide +kernel
theorem dX6_takePath_5 : decode cX6_takePath 5 = .ok (.getfield 38, 3) := by decide +kernel
theorem dX6_takePath_8 : decode cX6_takePath 8 = .ok (.invokevirtual 79, 3) := by decide +kernel
theorem dX6_takePath_11 : decode cX6_takePath 11 = .ok (.aload_n 0, 1) := by decide +kernel
theorem dX6_takePath_12 : decode cX6_takePath 12 = .ok (.aload_n 1, 1) := by decide +kernel
theorem dX6_takePath_13 : decode cX6_takePath 13 = .ok (.getfield 41, 3) := by decide +kernel
theorem dX6_takePath_16 : decode cX6_takePath 16 = .ok (.putfield 41, 3) := by decide +kernel
theorem dX6_takePath_19 : decode cX6_takePath 19 = .ok (.return_, 1) := by decide +kernel
theorem dX6_takeQuery_0 : decode cX6_takeQuery 0 = .ok (.aload_n 0, 1) := by decide +kernel
theorem dX6_takeQuery_1 : decode cX6_takeQuery 1 = .ok (.getfield 44, 3) := by decide +kernel
theorem dX6_takeQuery_4 : decode cX6_takeQuery 4 = .ok (.aload_n 1, 1) := by decide +kernel
theorem dX6_takeQuery_5 : decode cX6_takeQuery 5 = .ok (.getfield 44, 3) := by decide +kernel
theorem dX6_takeQuery_8 : decode cX6_takeQuery 8 = .ok (.invokevirtual 79, 3) := by decide +kernel
theorem dX6_takeQuery_11 : decode cX6_takeQuery 11 = .ok (.aload_n 0, 1) := by decide +kernel
theorem dX6_takeQuery_12 : decode cX6_takeQuery 12 = .ok (.aload_n 1, 1) := by decide +kernel
theorem dX6_takeQuery_13 : decode cX6_takeQuery 13 = .ok (.getfield 47, 3) := by decide +kernel
theorem dX6_takeQuery_16 : decode cX6_takeQuery 16 = .ok (.putfield 47, 3) := by decide +kernel
theorem dX6_takeQuery_19 : decode cX6_takeQuery 19 = .ok (.return_, 1) := by decide +kernel
theorem dX6_dropSegment_0 : decode cX6_dropSegment 0 = .ok (.aload_n 0, 1) := by decide +kernel
theorem dX6_dropSegment_1 : decode cX6_dropSegment 1 = .ok (.getfield 41, 3) := by decide +kernel
theorem dX6_dropSegment_4 : decode cX6_dropSegment 4 = .ok (.ifCond .ne 4, 3) := by decide +kernel
theorem dX6_dropSegment_7 : decode cX6_dropSegment 7 = .ok (.return_, 1) := by decide +kernel
theorem dX6_dropSegment_8 : decode cX6_dropSegment 8 = .ok (.aload_n 0, 1) := by decide +kernel
theorem dX6_dropSegment_9 : decode cX6_dropSegment 9 = .ok (.getfield 38, 3) := by decide +kernel
theorem dX6_dropSegment_12 : decode cX6_dropSegment 12 = .ok (.getfield 89, 3) := by decide +kernel
theorem dX6_dropSegment_15 : decode cX6_dropSegment 15 = .ok (.iconst 1, 1) := by decide +kernel
theorem dX6_dropSegment_16 : decode cX6_dropSegment 16 = .ok (.isub, 1) := by decide +kernel
theorem dX6_dropSegment_17 : decode cX6_dropSegment 17 = .ok (.istore_n 1, 1) := by decide +kernel
theorem dX6_dropSegment_18 : decode cX6_dropSegment 18 = .ok (.iload_n 1, 1) := by decide +kernel
theorem dX6_dropSegment_19 : decode cX6_dropSegment 19 = .ok (.ifCond .le 22, 3) := by decide +kernel
theorem dX6_dropSegment_22 : decode cX6_dropSegment 22 = .ok (.aload_n 0, 1) := by decide +kernel
theorem dX6_dropSegment_23 : decode cX6_dropSegment 23 = .ok (.getfield 38, 3) := by decide +kernel
theorem dX6_dropSegment_26 : decode cX6_dropSegment 26 = .ok (.iload_n 1, 1) := by decide +kernel
theorem dX6_dropSegment_27 : decode cX6_dropSegment 27 = .ok (.invokevirtual 92, 3) := by decide +kernel
theorem dX6_dropSegment_30 : decode cX6_dropSegment 30 = .ok (.bipush 47, 2) := by decide +kernel
theorem dX6_dropSegment_32 : decode cX6_dropSegment 32 = .ok (.if_icmp .eq 9, 3) := by decide +kernel
theorem dX6_dropSegment_35 : decode cX6_dropSegment 35 = .ok (.iinc 1 (-1), 3) := by decide +kernel
theorem dX6_dropSegment_38 : decode cX6_dropSegment 38 = .ok (.goto (-20), 3) := by decide +kernel
theorem dX6_dropSegment_41 : decode cX6_dropSegment 41 = .ok (.aload_n 0, 1) := by decide +kernel
theorem dX6_dropSegment_42 : decode cX6_dropSegment 42 = .ok (.getfield 38, 3) := by decide +kernel
theorem dX6_dropSegment_45 : decode cX6_dropSegment 45 = .ok (.iload_n 1, 1) := by decide +kernel
theorem dX6_dropSegment_46 : decode cX6_dropSegment 46 = .ok (.invokevirtual 67, 3) := by decide +kernel
theorem dX6_dropSegment_49 : decode cX6_dropSegment 49 = .ok (.aload_n 0, 1) := by decide +kernel
theorem dX6_dropSegment_50 : decode cX6_dropSegment 50 = .ok (.dup, 1) := by decide +kernel
theorem dX6_dropSegment_51 : decode cX6_dropSegment 51 = .ok (.getfield 41, 3) := by decide +kernel
theorem dX6_dropSegment_54 : decode cX6_dropSegment 54 = .ok (.iconst 1, 1) := by decide +kernel
theorem dX6_dropSegment_55 : decode cX6_dropSegment 55 = .ok (.isub, 1) := by decide +kernel
theorem dX6_dropSegment_56 : decode cX6_dropSegment 56 = .ok (.putfield 41, 3) := by decide +kernel
theorem dX6_dropSegment_59 : decode cX6_dropSegment 59 = .ok (.return_, 1) := by decide +kernel
def f_X7_mayBeInScheme  (a0 : Int32) : gM Int32 := gb (f_X1_isLetter a0) fun v1 => if v1 = 0 then (gb (f_X1_isDigit a0) fun v2 => if v2 = 0 then (if a0 = 43 then (gz 1) else (if a0 = 45 then (gz 1) else (if a0 = 46 then (gz 1) else (gz 0)))) else (gz 1)) else (gz 1)
section S_X7_mayBeInScheme
variable {G : gX} {p : Program} {l : Launch} {e : Env} {s : State} {m : MethodId} {args : Array Value} {below : List Frame} {meth : Method} {c : Code} {mc ms : Nat} {y : Int32 × gS}
set_option maxHeartbeats 4000000 in
set_option maxRecDepth 100000 in
theorem w_X7_mayBeInScheme_0 (C : gC G p s m args meth c cX7_mayBeInScheme 1 RX7) (hr : meth.sig.returnType = (some .boolean))  (a0 : Int32) : gJ G p l e 1 20 mc ms s m args below meth c gri y 1 0 [(0, .int a0)] [] (f_X7_mayBeInScheme  a0) := by
  have hx := C.1
  have hb := C.2.1
  intro σ H locs cells slots ls hf I hl
  unfold f_X7_mayBeInScheme at hf
  refine lv_iload_n hx hb dX7_mayBeInScheme_0 rfl (lv_at hl 0 rfl) ?_
  refine gw_callS (rest := []) C I hl.1 (m_X1_isLetter G l a0) gl_RX7_110 kw_101 ⟨Nat.le_of_ble_eq_true rfl, Nat.le_of_ble_eq_true rfl⟩ rfl (gc4 (Nat.le_of_ble_eq_true rfl)) rfl dX7_mayBeInScheme_1 hf (fun v1 σ H locs cells slots I hf => ?_)
  refine W.eq (g2 := F0 m 4 ls [.int v1]) rfl ?_
  refine lv_if_ne (tgt := 32) hx hb dX7_mayBeInScheme_4 (by decide) (fun hq => ?_) (fun hq => ?_)
  · have hf := giff hq hf
    refine lv_iconst (v := 1) hx hb dX7_mayBeInScheme_32 kc_i_1 ?_
    refine lv_goto (tgt := 37) hx hb dX7_mayBeInScheme_33 (by decide) ?_
    exact gw_zret C I hr dX7_mayBeInScheme_37 hf
  · have hf := gift hq hf
    refine lv_iload_n hx hb dX7_mayBeInScheme_7 rfl (lv_at hl 0 rfl) ?_
    refine gw_callS (rest := []) C I hl.1 (m_X1_isDigit G l a0) gl_RX7_116 kw_102 ⟨Nat.le_of_ble_eq_true rfl, Nat.le_of_ble_eq_true rfl⟩ rfl (gc4 (Nat.le_of_ble_eq_true rfl)) rfl dX7_mayBeInScheme_8 hf (fun v2 σ H locs cells slots I hf => ?_)
    refine W.eq (g2 := F0 m 11 ls [.int v2]) rfl ?_
    refine lv_if_ne (tgt := 32) hx hb dX7_mayBeInScheme_11 (by decide) (fun hq => ?_) (fun hq => ?_)
    · have hf := giff hq hf
      refine lv_iconst (v := 1) hx hb dX7_mayBeInScheme_32 kc_i_1 ?_
      refine lv_goto (tgt := 37) hx hb dX7_mayBeInScheme_33 (by decide) ?_
      exact gw_zret C I hr dX7_mayBeInScheme_37 hf
    · have hf := gift hq hf
      refine lv_iload_n hx hb dX7_mayBeInScheme_14 rfl (lv_at hl 0 rfl) ?_
      refine lv_bipush (v := 43) hx hb dX7_mayBeInScheme_15 kc_b_43 ?_
      refine lv_icmp_eq (tgt := 32) hx hb dX7_mayBeInScheme_17 (by decide) (fun hq => ?_) (fun hq => ?_)
      · have hf := gift hq hf
        refine lv_iconst (v := 1) hx hb dX7_mayBeInScheme_32 kc_i_1 ?_
        refine lv_goto (tgt := 37) hx hb dX7_mayBeInScheme_33 (by decide) ?_
        exact gw_zret C I hr dX7_mayBeInScheme_37 hf
      · have hf := giff hq hf
        refine lv_iload_n hx hb dX7_mayBeInScheme_20 rfl (lv_at hl 0 rfl) ?_
        refine lv_bipush (v := 45) hx hb dX7_mayBeInScheme_21 kc_b_45 ?_
        refine lv_icmp_eq (tgt := 32) hx hb dX7_mayBeInScheme_23 (by decide) (fun hq => ?_) (fun hq => ?_)
        · have hf := gift hq hf
          refine lv_iconst (v := 1) hx hb dX7_mayBeInScheme_32 kc_i_1 ?_
          refine lv_goto (tgt := 37) hx hb dX7_mayBeInScheme_33 (by decide) ?_
          exact gw_zret C I hr dX7_mayBeInScheme_37 hf
        · have hf := giff hq hf
          refine lv_iload_n hx hb dX7_mayBeInScheme_26 rfl (lv_at hl 0 rfl) ?_
          refine lv_bipush (v := 46) hx hb dX7_mayBeInScheme_27 kc_b_46 ?_
          refine lv_icmp_ne (tgt := 36) hx hb dX7_mayBeInScheme_29 (by decide) (fun hq => ?_) (fun hq => ?_)
          · have hf := giff hq hf
            refine lv_iconst (v := 0) hx hb dX7_mayBeInScheme_36 kc_i_0 ?_
            exact gw_zret C I hr dX7_mayBeInScheme_37 hf
          · have hf := gift hq hf
            refine lv_iconst (v := 1) hx hb dX7_mayBeInScheme_32 kc_i_1 ?_
            refine lv_goto (tgt := 37) hx hb dX7_mayBeInScheme_33 (by decide) ?_
            exact gw_zret C I hr dX7_mayBeInScheme_37 hf
end S_X7_mayBeInScheme
theorem m_X7_mayBeInScheme (G : gX) (l : Launch) (a0 : Int32) : gMet G l yX7_mayBeInScheme cX7_mayBeInScheme 1 (some .boolean) 1 20 [.int a0] gri (f_X7_mayBeInScheme a0) := by
  refine gMet_of (by decide) ?_
  intro σ y p e s m below meth c mc ms hf C hr hnm I
  obtain ⟨ls, e1, hl⟩ := gentry m [.int a0] 1 [(0, .int a0)] (by simp [lg_sl, grc, gcat_i, gcat_l]) (by simp [lv_args, grc, gcat_i, gcat_l])
  rw [e1]
  exact w_X7_mayBeInScheme_0 C hr a0 _ _ _ _ _ _ hf I hl
def f_X7_schemeEnd_49  (x0 : Option Nat) (x1 : Int32) : gM Int32 := gb (rR 6 0 x0) fun v1 => gb (nn 4 v1) fun _ => gb (f_X5_byteAt v1 x1) fun v2 => if v2 = 58 then (gp x1) else (gp (-1))
def f_X7_schemeEnd_18 (rec18 : Option Nat → Int32 → gM Int32) (x0 : Option Nat) (x1 : Int32) : gM Int32 := gb (rR 6 0 x0) fun v1 => gb (rI 4 1 v1) fun v2 => if v2 ≤ x1 then (f_X7_schemeEnd_49  x0 x1) else (gb (rR 6 0 x0) fun v3 => gb (nn 4 v3) fun _ => gb (f_X5_byteAt v3 x1) fun v4 => gb (f_X7_mayBeInScheme v4) fun v5 => if v5 = 0 then (f_X7_schemeEnd_49  x0 x1) else (rec18 x0 (x1 + 1)))
def f_X7_schemeEnd_L18  : Nat → Option Nat → Int32 → gM Int32
  | 0, _, _ => gno
  | n + 1, x0, x1 => f_X7_schemeEnd_18  (f_X7_schemeEnd_L18  n) x0 x1
def f_X7_schemeEnd  (a0 : Option Nat) : gM Int32 := gb (rR 6 0 a0) fun v1 => gb (nn 4 v1) fun _ => gb (f_X5_byteAt v1 0) fun v2 => gb (f_X1_isLetter v2) fun v3 => if v3 = 0 then (gp (-1)) else (f_X7_schemeEnd_L18  gF a0 1)
section S_X7_schemeEnd
variable {G : gX} {p : Program} {l : Launch} {e : Env} {s : State} {m : MethodId} {args : Array Value} {below : List Frame} {meth : Method} {c : Code} {mc ms : Nat} {y : Int32 × gS}
set_option maxHeartbeats 4000000 in
set_option maxRecDepth 100000 in
theorem w_X7_schemeEnd_49 (C : gC G p s m args meth c cX7_schemeEnd 2 RX7) (hr : meth.sig.returnType = (some .int))  (x0 : Option Nat) (x1 : Int32) : gJ G p l e 2 40 mc ms s m args below meth c gri y 2 49 [(0, va_rf x0), (1, .int x1)] [] (f_X7_schemeEnd_49  x0 x1) := by
  have hx := C.1
  have hb := C.2.1
  intro σ H locs cells slots ls hf I hl
  unfold f_X7_schemeEnd_49 at hf
  refine gw_aload_n hx hb dX7_schemeEnd_49 rfl (lv_at hl 0 rfl) ?_
  refine gw_getr (k := 0) C I gcls_6 (by decide) rfl kw_27 dX7_schemeEnd_50 hf (fun v1 hf => ?_)
  refine lv_iload_n hx hb dX7_schemeEnd_53 rfl (lv_at hl 1 rfl) ?_
  refine gw_callV (rest := []) C I hl.1 gcls_4 (m_X5_byteAt G l v1 x1) gl_RX7_61 gn_X5_byteAt ⟨Nat.le_of_ble_eq_true rfl, Nat.le_of_ble_eq_true rfl⟩ rfl (gc4 (Nat.le_of_ble_eq_true rfl)) rfl dX7_schemeEnd_54 hf (fun v2 σ H locs cells slots I hf => ?_)
  refine W.eq (g2 := F0 m 57 ls [.int v2]) rfl ?_
  refine lv_bipush (v := 58) hx hb dX7_schemeEnd_57 kc_b_58 ?_
  refine lv_icmp_ne (tgt := 66) hx hb dX7_schemeEnd_59 (by decide) (fun hq => ?_) (fun hq => ?_)
  · have hf := giff hq hf
    refine lv_iconst (v := (-1)) hx hb dX7_schemeEnd_66 kc_i_m1 ?_
    exact gw_iret C I hr dX7_schemeEnd_67 hf
  · have hf := gift hq hf
    refine lv_iload_n hx hb dX7_schemeEnd_62 rfl (lv_at hl 1 rfl) ?_
    refine lv_goto (tgt := 67) hx hb dX7_schemeEnd_63 (by decide) ?_
    exact gw_iret C I hr dX7_schemeEnd_67 hf
set_option maxHeartbeats 4000000 in
set_option maxRecDepth 100000 in
theorem w_X7_schemeEnd_18 (C : gC G p s m args meth c cX7_schemeEnd 2 RX7) (hr : meth.sig.returnType = (some .int)) {rec18 : Option Nat → Int32 → gM Int32} (hrec18 : ∀ (x0 : Option Nat) (x1 : Int32), gJ G p l e 2 40 mc ms s m args below meth c gri y 2 18 [(0, va_rf x0), (1, .int x1)] [] (rec18 x0 x1)) (x0 : Option Nat) (x1 : Int32) : gJ G p l e 2 40 mc ms s m args below meth c gri y 2 18 [(0, va_rf x0), (1, .int x1)] [] (f_X7_schemeEnd_18 rec18 x0 x1) := by
  have hx := C.1
  have hb := C.2.1
  intro σ H locs cells slots ls hf I hl
  unfold f_X7_schemeEnd_18 at hf
  refine lv_iload_n hx hb dX7_schemeEnd_18 rfl (lv_at hl 1 rfl) ?_
  refine gw_aload_n hx hb dX7_schemeEnd_19 rfl (lv_at hl 0 rfl) ?_
  refine gw_getr (k := 0) C I gcls_6 (by decide) rfl kw_27 dX7_schemeEnd_20 hf (fun v1 hf => ?_)
  refine gw_geti (k := 1) C I gcls_4 (by decide) rfl kw_100 dX7_schemeEnd_23 hf (fun v2 hf => ?_)
  refine lv_icmp_ge (tgt := 49) hx hb dX7_schemeEnd_26 (by decide) (fun hq => ?_) (fun hq => ?_)
  · have hf := gift hq hf
    exact w_X7_schemeEnd_49 C hr  x0 x1 _ _ _ _ _ _ hf I (lv_sub hl [0, 1] rfl)
  · have hf := giff hq hf
    refine gw_aload_n hx hb dX7_schemeEnd_29 rfl (lv_at hl 0 rfl) ?_
    refine gw_getr (k := 0) C I gcls_6 (by decide) rfl kw_27 dX7_schemeEnd_30 hf (fun v3 hf => ?_)
    refine lv_iload_n hx hb dX7_schemeEnd_33 rfl (lv_at hl 1 rfl) ?_
    refine gw_callV (rest := []) C I hl.1 gcls_4 (m_X5_byteAt G l v3 x1) gl_RX7_61 gn_X5_byteAt ⟨Nat.le_of_ble_eq_true rfl, Nat.le_of_ble_eq_true rfl⟩ rfl (gc4 (Nat.le_of_ble_eq_true rfl)) rfl dX7_schemeEnd_34 hf (fun v4 σ H locs cells slots I hf => ?_)
    refine W.eq (g2 := F0 m 37 ls [.int v4]) rfl ?_
    refine gw_callS (rest := []) C I hl.1 (m_X7_mayBeInScheme G l v4) gl_RX7_113 kw_103 ⟨Nat.le_of_ble_eq_true rfl, Nat.le_of_ble_eq_true rfl⟩ rfl (gc4 (Nat.le_of_ble_eq_true rfl)) rfl dX7_schemeEnd_37 hf (fun v5 σ H locs cells slots I hf => ?_)
    refine W.eq (g2 := F0 m 40 ls [.int v5]) rfl ?_
    refine lv_if_eq (tgt := 49) hx hb dX7_schemeEnd_40 (by decide) (fun hq => ?_) (fun hq => ?_)
    · have hf := gift hq hf
      exact w_X7_schemeEnd_49 C hr  x0 x1 _ _ _ _ _ _ hf I (lv_sub hl [0, 1] rfl)
    · have hf := giff hq hf
      refine lv_iinc (v := x1 + 1) (lv' := [(1, .int (x1 + 1)), (0, va_rf x0)]) hx hb dX7_schemeEnd_43 hl (k := 1) rfl rfl (by decide) (by cases x0 <;> rfl) (fun ls hl => ?_)
      refine lv_goto (tgt := 18) hx hb dX7_schemeEnd_46 (by decide) ?_
      exact hrec18 x0 (x1 + 1) _ _ _ _ _ _ hf I (lv_sub hl [1, 0] rfl)
theorem w_X7_schemeEnd_L18 (C : gC G p s m args meth c cX7_schemeEnd 2 RX7) (hr : meth.sig.returnType = (some .int))  : ∀ (n : Nat) (x0 : Option Nat) (x1 : Int32), gJ G p l e 2 40 mc ms s m args below meth c gri y 2 18 [(0, va_rf x0), (1, .int x1)] [] (f_X7_schemeEnd_L18  n x0 x1) := by
  intro n
  induction n with
  | zero => intro x0 x1 σ H locs cells slots ls hf; exact (gno_some hf).elim
  | succ n ih => intro x0 x1; exact w_X7_schemeEnd_18 C hr  ih x0 x1
set_option maxHeartbeats 4000000 in
set_option maxRecDepth 100000 in
theorem w_X7_schemeEnd_0 (C : gC G p s m args meth c cX7_schemeEnd 2 RX7) (hr : meth.sig.returnType = (some .int))  (a0 : Option Nat) : gJ G p l e 2 40 mc ms s m args below meth c gri y 2 0 [(0, va_rf a0)] [] (f_X7_schemeEnd  a0) := by
  have hx := C.1
  have hb := C.2.1
  intro σ H locs cells slots ls hf I hl
  unfold f_X7_schemeEnd at hf
  refine gw_aload_n hx hb dX7_schemeEnd_0 rfl (lv_at hl 0 rfl) ?_
  refine gw_getr (k := 0) C I gcls_6 (by decide) rfl kw_27 dX7_schemeEnd_1 hf (fun v1 hf => ?_)
  refine lv_iconst (v := 0) hx hb dX7_schemeEnd_4 kc_i_0 ?_
  refine gw_callV (rest := []) C I hl.1 gcls_4 (m_X5_byteAt G l v1 0) gl_RX7_61 gn_X5_byteAt ⟨Nat.le_of_ble_eq_true rfl, Nat.le_of_ble_eq_true rfl⟩ rfl (gc4 (Nat.le_of_ble_eq_true rfl)) rfl dX7_schemeEnd_5 hf (fun v2 σ H locs cells slots I hf => ?_)
  refine W.eq (g2 := F0 m 8 ls [.int v2]) rfl ?_
  refine gw_callS (rest := []) C I hl.1 (m_X1_isLetter G l v2) gl_RX7_110 kw_101 ⟨Nat.le_of_ble_eq_true rfl, Nat.le_of_ble_eq_true rfl⟩ rfl (gc4 (Nat.le_of_ble_eq_true rfl)) rfl dX7_schemeEnd_8 hf (fun v3 σ H locs cells slots I hf => ?_)
  refine W.eq (g2 := F0 m 11 ls [.int v3]) rfl ?_
  refine lv_if_ne (tgt := 16) hx hb dX7_schemeEnd_11 (by decide) (fun hq => ?_) (fun hq => ?_)
  · have hf := giff hq hf
    refine lv_iconst (v := 1) hx hb dX7_schemeEnd_16 kc_i_1 ?_
    refine lv_istore_n (lv' := [(1, .int 1), (0, va_rf a0)]) hx hb dX7_schemeEnd_17 rfl hl (by decide) (by cases a0 <;> rfl) (fun ls hl => ?_)
    exact w_X7_schemeEnd_L18 C hr  _ a0 1 _ _ _ _ _ _ hf I (lv_sub hl [1, 0] rfl)
  · have hf := gift hq hf
    refine lv_iconst (v := (-1)) hx hb dX7_schemeEnd_14 kc_i_m1 ?_
    exact gw_iret C I hr dX7_schemeEnd_15 hf
end S_X7_schemeEnd
theorem m_X7_schemeEnd (G : gX) (l : Launch) (a0 : Option Nat) : gMet G l yX7_schemeEnd cX7_schemeEnd 2 (some .int) 2 40 [va_rf a0] gri (f_X7_schemeEnd a0) := by
  refine gMet_of (by decide) ?_
  intro σ y p e s m below meth c mc ms hf C hr hnm I
  obtain ⟨ls, e1, hl⟩ := gentry m [va_rf a0] 2 [(0, va_rf a0)] (by simp [lg_sl, grc, gcat_i, gcat_l]) (by simp [lv_args, grc, gcat_i, gcat_l])
  rw [e1]
  exact w_X7_schemeEnd_0 C hr a0 _ _ _ _ _ _ hf I hl
def f_X6_nameOf  (a0 : Int32) : gM Nat := if a0 = 0 then (gp 0) else if a0 = 1 then (gp 1) else if a0 = 2 then (gp 2) else if a0 = 3 then (gp 3) else (gp 4)
section S_X6_nameOf
variable {G : gX} {p : Program} {l : Launch} {e : Env} {s : State} {m : MethodId} {args : Array Value} {below : List Frame} {meth : Method} {c : Code} {mc ms : Nat} {y : Nat × gS}
set_option maxHeartbeats 4000000 in
set_option maxRecDepth 100000 in
theorem w_X6_nameOf_0 (C : gC G p s m args meth c cX6_nameOf 1 RX6) (hr : meth.sig.returnType = (some (.object "java/lang/String")))  (a0 : Int32) : gJ G p l e 0 0 mc ms s m args below meth c (grt G) y 1 0 [(0, .int a0)] [] (f_X6_nameOf  a0) := by
  have hx := C.1
  have hb := C.2.1
  intro σ H locs cells slots ls hf I hl
  unfold f_X6_nameOf at hf
  refine lv_iload_n hx hb dX6_nameOf_0 rfl (lv_at hl 0 rfl) ?_
  by_cases hq0 : a0 = 0
  · have hf := gift hq0 hf
    refine gw_sw (tgt := 32) hx hb dX6_nameOf_1 hq0 (by decide) (by decide) rfl (by decide) ?_
    refine gw_ldcs C 0 (tx := "http") rfl dX6_nameOf_32 ?_
    exact gw_tret C I hr (Or.inl ⟨_, rfl⟩) dX6_nameOf_34 hf
  have hf := giff hq0 hf
  by_cases hq1 : a0 = 1
  · have hf := gift hq1 hf
    refine gw_sw (tgt := 35) hx hb dX6_nameOf_1 hq1 (by decide) (by decide) rfl (by decide) ?_
    refine gw_ldcs C 1 (tx := "ws") rfl dX6_nameOf_35 ?_
    exact gw_tret C I hr (Or.inl ⟨_, rfl⟩) dX6_nameOf_37 hf
  have hf := giff hq1 hf
  by_cases hq2 : a0 = 2
  · have hf := gift hq2 hf
    refine gw_sw (tgt := 38) hx hb dX6_nameOf_1 hq2 (by decide) (by decide) rfl (by decide) ?_
    refine gw_ldcs C 2 (tx := "https") rfl dX6_nameOf_38 ?_
    exact gw_tret C I hr (Or.inl ⟨_, rfl⟩) dX6_nameOf_40 hf
  have hf := giff hq2 hf
  by_cases hq3 : a0 = 3
  · have hf := gift hq3 hf
    refine gw_sw (tgt := 41) hx hb dX6_nameOf_1 hq3 (by decide) (by decide) rfl (by decide) ?_
    refine gw_ldcs C 3 (tx := "wss") rfl dX6_nameOf_41 ?_
    exact gw_tret C I hr (Or.inl ⟨_, rfl⟩) dX6_nameOf_43 hf
  have hf := giff hq3 hf
  refine lv_tableOut (tgt := 44) hx hb dX6_nameOf_1 (by have := lv_neT hq0 (a := 0) (by decide); have := lv_neT hq1 (a := 1) (by decide); have := lv_neT hq2 (a := 2) (by decide); have := lv_neT hq3 (a := 3) (by decide); omega) (by decide) ?_
  refine gw_ldcs C 4 (tx := "ftp") rfl dX6_nameOf_44 ?_
  exact gw_tret C I hr (Or.inl ⟨_, rfl⟩) dX6_nameOf_46 hf
end S_X6_nameOf
theorem m_X6_nameOf (G : gX) (l : Launch) (a0 : Int32) : gMet G l yX6_nameOf cX6_nameOf 1 (some (.object "java/lang/String")) 0 0 [.int a0] (grt G) (f_X6_nameOf a0) := by
  refine gMet_of (by decide) ?_
  intro σ y p e s m below meth c mc ms hf C hr hnm I
  obtain ⟨ls, e1, hl⟩ := gentry m [.int a0] 1 [(0, .int a0)] (by simp [lg_sl, grc, gcat_i, gcat_l]) (by simp [lv_args, grc, gcat_i, gcat_l])
  rw [e1]
  exact w_X6_nameOf_0 C hr a0 _ _ _ _ _ _ hf I hl
def f_J0_coder_7d493  (a0 : Nat) : gM Int32 := gb (tk a0) fun _ => gby 0
section S_J0_coder_7d493
variable {G : gX} {p : Program} {l : Launch} {e : Env} {s : State} {m : MethodId} {args : Array Value} {below : List Frame} {meth : Method} {c : Code} {mc ms : Nat} {y : Int32 × gS}
set_option maxHeartbeats 4000000 in
set_option maxRecDepth 100000 in
theorem w_J0_coder_7d493_0 (C : gC G p s m args meth c cJ0_coder_7d493 1 RJ0) (hr : meth.sig.returnType = (some .byte))  (a0 : Nat) : gJ G p l e 0 0 mc ms s m args below meth c gri y 1 0 [(0, va_rf (some (gK G a0)))] [] (f_J0_coder_7d493  a0) := by
  have hx := C.1
  have hb := C.2.1
  intro σ H locs cells slots ls hf I hl
  unfold f_J0_coder_7d493 at hf
  refine gw_compact C I kw_104 dJ0_coder_7d493_0 ?_
  refine lv_if_eq (tgt := 13) hx hb dJ0_coder_7d493_3 (by decide) (fun hq => ?_) (fun hq => ?_)
  · exact absurd hq (by decide)
  · skip
    refine gw_aload_n hx hb dJ0_coder_7d493_6 rfl (lv_at hl 0 rfl) ?_
    refine gw_tcod C I kw_105 dJ0_coder_7d493_7 hf (fun hf => ?_)
    refine lv_goto (tgt := 14) hx hb dJ0_coder_7d493_10 (by decide) ?_
    exact gw_cret (ty := .byte) C I hr dJ0_coder_7d493_14 hf
end S_J0_coder_7d493
theorem m_J0_coder_7d493 (G : gX) (l : Launch) (a0 : Nat) : gMet G l yJ0_coder_7d493 cJ0_coder_7d493 1 (some .byte) 0 0 [va_rf (some (gK G a0))] gri (f_J0_coder_7d493 a0) := by
  refine gMet_of (by decide) ?_
  intro σ y p e s m below meth c mc ms hf C hr hnm I
  obtain ⟨ls, e1, hl⟩ := gentry m [va_rf (some (gK G a0))] 1 [(0, va_rf (some (gK G a0)))] (by simp [lg_sl, grc, gcat_i, gcat_l]) (by simp [lv_args, grc, gcat_i, gcat_l])
  rw [e1]
  exact w_J0_coder_7d493_0 C hr a0 _ _ _ _ _ _ hf I hl
def f_J0_length_8abf5  (a0 : Nat) : gM Int32 := gb (tk a0) fun _ => gb (tk a0) fun _ => gb (tk a0) fun _ => gb (f_J0_coder_7d493 a0) fun v1 => gp ((Int32.ofNat (gLen.getD a0 0)) >>> (v1 &&& 31))
section S_J0_length_8abf5
variable {G : gX} {p : Program} {l : Launch} {e : Env} {s : State} {m : MethodId} {args : Array Value} {below : List Frame} {meth : Method} {c : Code} {mc ms : Nat} {y : Int32 × gS}
set_option maxHeartbeats 4000000 in
set_option maxRecDepth 100000 in
theorem w_J0_length_8abf5_0 (C : gC G p s m args meth c cJ0_length_8abf5 1 RJ0) (hr : meth.sig.returnType = (some .int))  (a0 : Nat) : gJ G p l e 1 20 mc ms s m args below meth c gri y 1 0 [(0, va_rf (some (gK G a0)))] [] (f_J0_length_8abf5  a0) := by
  have hx := C.1
  have hb := C.2.1
  intro σ H locs cells slots ls hf I hl
  unfold f_J0_length_8abf5 at hf
  refine gw_aload_n hx hb dJ0_length_8abf5_0 rfl (lv_at hl 0 rfl) ?_
  refine gw_tval C I kw_106 dJ0_length_8abf5_1 hf (fun hf => ?_)
  refine gw_tlen C I dJ0_length_8abf5_4 hf (fun hf => ?_)
  refine gw_aload_n hx hb dJ0_length_8abf5_5 rfl (lv_at hl 0 rfl) ?_
  refine gw_callT (rest := [.int (Int32.ofNat (gLen.getD a0 0))]) C I hl.1 (m_J0_coder_7d493 G l a0) gl_RJ0_335 gn_J0_coder_7d493 ⟨Nat.le_of_ble_eq_true rfl, Nat.le_of_ble_eq_true rfl⟩ rfl (gc4 (Nat.le_of_ble_eq_true rfl)) rfl dJ0_length_8abf5_6 hf (fun v1 σ H locs cells slots I hf => ?_)
  refine W.eq (g2 := F0 m 9 ls [.int v1, .int (Int32.ofNat (gLen.getD a0 0))]) rfl ?_
  refine lv_ishr hx hb dJ0_length_8abf5_9 ?_
  exact gw_iret C I hr dJ0_length_8abf5_10 hf
end S_J0_length_8abf5
theorem m_J0_length_8abf5 (G : gX) (l : Launch) (a0 : Nat) : gMet G l yJ0_length_8abf5 cJ0_length_8abf5 1 (some .int) 1 20 [va_rf (some (gK G a0))] gri (f_J0_length_8abf5 a0) := by
  refine gMet_of (by decide) ?_
  intro σ y p e s m below meth c mc ms hf C hr hnm I
  obtain ⟨ls, e1, hl⟩ := gentry m [va_rf (some (gK G a0))] 1 [(0, va_rf (some (gK G a0)))] (by simp [lg_sl, grc, gcat_i, gcat_l]) (by simp [lv_args, grc, gcat_i, gcat_l])
  rw [e1]
  exact w_J0_length_8abf5_0 C hr a0 _ _ _ _ _ _ hf I hl
def f_J0_isLatin1_aae02  (a0 : Nat) : gM Int32 := gb (tk a0) fun _ => gz 1
section S_J0_isLatin1_aae02
variable {G : gX} {p : Program} {l : Launch} {e : Env} {s : State} {m : MethodId} {args : Array Value} {below : List Frame} {meth : Method} {c : Code} {mc ms : Nat} {y : Int32 × gS}
set_option maxHeartbeats 4000000 in
set_option maxRecDepth 100000 in
theorem w_J0_isLatin1_aae02_0 (C : gC G p s m args meth c cJ0_isLatin1_aae02 1 RJ0) (hr : meth.sig.returnType = (some .boolean))  (a0 : Nat) : gJ G p l e 0 0 mc ms s m args below meth c gri y 1 0 [(0, va_rf (some (gK G a0)))] [] (f_J0_isLatin1_aae02  a0) := by
  have hx := C.1
  have hb := C.2.1
  intro σ H locs cells slots ls hf I hl
  unfold f_J0_isLatin1_aae02 at hf
  refine gw_compact C I kw_104 dJ0_isLatin1_aae02_0 ?_
  refine lv_if_eq (tgt := 17) hx hb dJ0_isLatin1_aae02_3 (by decide) (fun hq => ?_) (fun hq => ?_)
  · exact absurd hq (by decide)
  · skip
    refine gw_aload_n hx hb dJ0_isLatin1_aae02_6 rfl (lv_at hl 0 rfl) ?_
    refine gw_tcod C I kw_105 dJ0_isLatin1_aae02_7 hf (fun hf => ?_)
    refine lv_if_ne (tgt := 17) hx hb dJ0_isLatin1_aae02_10 (by decide) (fun hq => ?_) (fun hq => ?_)
    · exact absurd hq (by decide)
    · skip
      refine lv_iconst (v := 1) hx hb dJ0_isLatin1_aae02_13 kc_i_1 ?_
      refine lv_goto (tgt := 18) hx hb dJ0_isLatin1_aae02_14 (by decide) ?_
      exact gw_zret C I hr dJ0_isLatin1_aae02_18 hf
end S_J0_isLatin1_aae02
theorem m_J0_isLatin1_aae02 (G : gX) (l : Launch) (a0 : Nat) : gMet G l yJ0_isLatin1_aae02 cJ0_isLatin1_aae02 1 (some .boolean) 0 0 [va_rf (some (gK G a0))] gri (f_J0_isLatin1_aae02 a0) := by
  refine gMet_of (by decide) ?_
  intro σ y p e s m below meth c mc ms hf C hr hnm I
  obtain ⟨ls, e1, hl⟩ := gentry m [va_rf (some (gK G a0))] 1 [(0, va_rf (some (gK G a0)))] (by simp [lg_sl, grc, gcat_i, gcat_l]) (by simp [lv_args, grc, gcat_i, gcat_l])
  rw [e1]
  exact w_J0_isLatin1_aae02_0 C hr a0 _ _ _ _ _ _ hf I hl
def f_J3_checkIndex_8e157  (a0 : Int32) (a1 : Int32) (a2 : Option Nat) : gM Int32 := if a0 < 0 then (gno) else (if a0 < a1 then (gp a0) else (gno))
section S_J3_checkIndex_8e157
variable {G : gX} {p : Program} {l : Launch} {e : Env} {s : State} {m : MethodId} {args : Array Value} {below : List Frame} {meth : Method} {c : Code} {mc ms : Nat} {y : Int32 × gS}
set_option maxHeartbeats 4000000 in
set_option maxRecDepth 100000 in
theorem w_J3_checkIndex_8e157_0 (C : gC G p s m args meth c cJ3_checkIndex_8e157 3 RJ3) (hr : meth.sig.returnType = (some .int))  (a0 : Int32) (a1 : Int32) (a2 : Option Nat) : gJ G p l e 0 0 mc ms s m args below meth c gri y 3 0 [(0, .int a0), (1, .int a1), (2, va_rf a2)] [] (f_J3_checkIndex_8e157  a0 a1 a2) := by
  have hx := C.1
  have hb := C.2.1
  intro σ H locs cells slots ls hf I hl
  unfold f_J3_checkIndex_8e157 at hf
  refine lv_iload_n hx hb dJ3_checkIndex_8e157_0 rfl (lv_at hl 0 rfl) ?_
  refine lv_if_lt (tgt := 9) hx hb dJ3_checkIndex_8e157_1 (by decide) (fun hq => ?_) (fun hq => ?_)
  · have hf := gift hq hf
    exact (gno_some hf).elim
  · have hf := giff hq hf
    refine lv_iload_n hx hb dJ3_checkIndex_8e157_4 rfl (lv_at hl 0 rfl) ?_
    refine lv_iload_n hx hb dJ3_checkIndex_8e157_5 rfl (lv_at hl 1 rfl) ?_
    refine lv_icmp_lt (tgt := 16) hx hb dJ3_checkIndex_8e157_6 (by decide) (fun hq => ?_) (fun hq => ?_)
    · have hf := gift hq hf
      refine lv_iload_n hx hb dJ3_checkIndex_8e157_16 rfl (lv_at hl 0 rfl) ?_
      exact gw_iret C I hr dJ3_checkIndex_8e157_17 hf
    · have hf := giff hq hf
      exact (gno_some hf).elim
end S_J3_checkIndex_8e157
theorem m_J3_checkIndex_8e157 (G : gX) (l : Launch) (a0 : Int32) (a1 : Int32) (a2 : Option Nat) : gMet G l yJ3_checkIndex_8e157 cJ3_checkIndex_8e157 3 (some .int) 0 0 [.int a0, .int a1, va_rf a2] gri (f_J3_checkIndex_8e157 a0 a1 a2) := by
  refine gMet_of (by decide) ?_
  intro σ y p e s m below meth c mc ms hf C hr hnm I
  obtain ⟨ls, e1, hl⟩ := gentry m [.int a0, .int a1, va_rf a2] 3 [(0, .int a0), (1, .int a1), (2, va_rf a2)] (by simp [lg_sl, grc, gcat_i, gcat_l]) (by simp [lv_args, grc, gcat_i, gcat_l])
  rw [e1]
  exact w_J3_checkIndex_8e157_0 C hr a0 a1 a2 _ _ _ _ _ _ hf I hl
def f_J0_checkIndex_df160  (a0 : Int32) (a1 : Int32) : gM Unit := gb (f_J3_checkIndex_8e157 a0 a1 none) fun v1 => gp ()
section S_J0_checkIndex_df160
variable {G : gX} {p : Program} {l : Launch} {e : Env} {s : State} {m : MethodId} {args : Array Value} {below : List Frame} {meth : Method} {c : Code} {mc ms : Nat} {y : Unit × gS}
set_option maxHeartbeats 4000000 in
set_option maxRecDepth 100000 in
theorem w_J0_checkIndex_df160_0 (C : gC G p s m args meth c cJ0_checkIndex_df160 2 RJ0) (hr : meth.sig.returnType = none)  (a0 : Int32) (a1 : Int32) : gJ G p l e 1 22 mc ms s m args below meth c grv y 2 0 [(0, .int a0), (1, .int a1)] [] (f_J0_checkIndex_df160  a0 a1) := by
  have hx := C.1
  have hb := C.2.1
  intro σ H locs cells slots ls hf I hl
  unfold f_J0_checkIndex_df160 at hf
  refine lv_iload_n hx hb dJ0_checkIndex_df160_0 rfl (lv_at hl 0 rfl) ?_
  refine lv_iload_n hx hb dJ0_checkIndex_df160_1 rfl (lv_at hl 1 rfl) ?_
  refine gw_sioobe C I kw_107 dJ0_checkIndex_df160_2 (fun w2 => ?_)
  refine gw_callS (rest := []) C I hl.1 (m_J3_checkIndex_8e157 G l a0 a1 w2) gl_RJ0_1059 kw_108 ⟨Nat.le_of_ble_eq_true rfl, Nat.le_of_ble_eq_true rfl⟩ rfl (gc4 (Nat.le_of_ble_eq_true rfl)) rfl dJ0_checkIndex_df160_5 hf (fun v1 σ H locs cells slots I hf => ?_)
  refine W.eq (g2 := F0 m 8 ls [.int v1]) rfl ?_
  refine lv_pop hx hb dJ0_checkIndex_df160_8 rfl ?_
  exact gw_vret C I hr dJ0_checkIndex_df160_9 hf
end S_J0_checkIndex_df160
theorem m_J0_checkIndex_df160 (G : gX) (l : Launch) (a0 : Int32) (a1 : Int32) : gMet G l yJ0_checkIndex_df160 cJ0_checkIndex_df160 2 none 1 22 [.int a0, .int a1] grv (f_J0_checkIndex_df160 a0 a1) := by
  refine gMet_of (by decide) ?_
  intro σ y p e s m below meth c mc ms hf C hr hnm I
  obtain ⟨ls, e1, hl⟩ := gentry m [.int a0, .int a1] 2 [(0, .int a0), (1, .int a1)] (by simp [lg_sl, grc, gcat_i, gcat_l]) (by simp [lv_args, grc, gcat_i, gcat_l])
  rw [e1]
  exact w_J0_checkIndex_df160_0 C hr a0 a1 _ _ _ _ _ _ hf I hl
def f_J1_charAt_3b067  (a0 : Nat) (a1 : Int32) : gM Int32 := gb (tk a0) fun _ => gb (f_J0_checkIndex_df160 a1 (Int32.ofNat (gLen.getD a0 0))) fun _ => gb (tA a0 a1) fun v1 => gch (((v1 &&& 255).toUInt32 % 65536).toInt32)
section S_J1_charAt_3b067
variable {G : gX} {p : Program} {l : Launch} {e : Env} {s : State} {m : MethodId} {args : Array Value} {below : List Frame} {meth : Method} {c : Code} {mc ms : Nat} {y : Int32 × gS}
set_option maxHeartbeats 4000000 in
set_option maxRecDepth 100000 in
theorem w_J1_charAt_3b067_0 (C : gC G p s m args meth c cJ1_charAt_3b067 2 RJ1) (hr : meth.sig.returnType = (some .char))  (a0 : Nat) (a1 : Int32) : gJ G p l e 2 43 mc ms s m args below meth c gri y 2 0 [(0, va_rf (some (gV G a0))), (1, .int a1)] [] (f_J1_charAt_3b067  a0 a1) := by
  have hx := C.1
  have hb := C.2.1
  intro σ H locs cells slots ls hf I hl
  unfold f_J1_charAt_3b067 at hf
  refine lv_iload_n hx hb dJ1_charAt_3b067_0 rfl (lv_at hl 1 rfl) ?_
  refine gw_aload_n hx hb dJ1_charAt_3b067_1 rfl (lv_at hl 0 rfl) ?_
  refine gw_tlen C I dJ1_charAt_3b067_2 hf (fun hf => ?_)
  refine gw_callS (rest := []) C I hl.1 (m_J0_checkIndex_df160 G l a1 (Int32.ofNat (gLen.getD a0 0))) gl_RJ1_9 kw_109 ⟨Nat.le_of_ble_eq_true rfl, Nat.le_of_ble_eq_true rfl⟩ rfl (gc4 (Nat.le_of_ble_eq_true rfl)) rfl dJ1_charAt_3b067_3 hf (fun _ σ H locs cells slots I hf => ?_)
  refine W.eq (g2 := F0 m 6 ls []) rfl ?_
  refine gw_aload_n hx hb dJ1_charAt_3b067_6 rfl (lv_at hl 0 rfl) ?_
  refine lv_iload_n hx hb dJ1_charAt_3b067_7 rfl (lv_at hl 1 rfl) ?_
  refine gw_tald C I dJ1_charAt_3b067_8 hf (fun v1 hf => ?_)
  refine lv_sipush (v := 255) hx hb dJ1_charAt_3b067_9 kc_s_255 ?_
  refine lv_iand hx hb dJ1_charAt_3b067_12 ?_
  refine lv_i2c hx hb dJ1_charAt_3b067_13 rfl ?_
  exact gw_cret (ty := .char) C I hr dJ1_charAt_3b067_14 hf
end S_J1_charAt_3b067
theorem m_J1_charAt_3b067 (G : gX) (l : Launch) (a0 : Nat) (a1 : Int32) : gMet G l yJ1_charAt_3b067 cJ1_charAt_3b067 2 (some .char) 2 43 [va_rf (some (gV G a0)), .int a1] gri (f_J1_charAt_3b067 a0 a1) := by
  refine gMet_of (by decide) ?_
  intro σ y p e s m below meth c mc ms hf C hr hnm I
  obtain ⟨ls, e1, hl⟩ := gentry m [va_rf (some (gV G a0)), .int a1] 2 [(0, va_rf (some (gV G a0))), (1, .int a1)] (by simp [lg_sl, grc, gcat_i, gcat_l]) (by simp [lv_args, grc, gcat_i, gcat_l])
  rw [e1]
  exact w_J1_charAt_3b067_0 C hr a0 a1 _ _ _ _ _ _ hf I hl
def f_J0_charAt_5068e  (a0 : Nat) (a1 : Int32) : gM Int32 := gb (tk a0) fun _ => gb (f_J0_isLatin1_aae02 a0) fun v1 => if v1 = 0 then (gno) else (gb (tk a0) fun _ => gb (f_J1_charAt_3b067 a0 a1) fun v2 => gch v2)
section S_J0_charAt_5068e
variable {G : gX} {p : Program} {l : Launch} {e : Env} {s : State} {m : MethodId} {args : Array Value} {below : List Frame} {meth : Method} {c : Code} {mc ms : Nat} {y : Int32 × gS}
set_option maxHeartbeats 4000000 in
set_option maxRecDepth 100000 in
theorem w_J0_charAt_5068e_0 (C : gC G p s m args meth c cJ0_charAt_5068e 2 RJ0) (hr : meth.sig.returnType = (some .char))  (a0 : Nat) (a1 : Int32) : gJ G p l e 3 64 mc ms s m args below meth c gri y 2 0 [(0, va_rf (some (gK G a0))), (1, .int a1)] [] (f_J0_charAt_5068e  a0 a1) := by
  have hx := C.1
  have hb := C.2.1
  intro σ H locs cells slots ls hf I hl
  unfold f_J0_charAt_5068e at hf
  refine gw_aload_n hx hb dJ0_charAt_5068e_0 rfl (lv_at hl 0 rfl) ?_
  refine gw_callT (rest := []) C I hl.1 (m_J0_isLatin1_aae02 G l a0) gl_RJ0_492 gn_J0_isLatin1_aae02 ⟨Nat.le_of_ble_eq_true rfl, Nat.le_of_ble_eq_true rfl⟩ rfl (gc4 (Nat.le_of_ble_eq_true rfl)) rfl dJ0_charAt_5068e_1 hf (fun v1 σ H locs cells slots I hf => ?_)
  refine W.eq (g2 := F0 m 4 ls [.int v1]) rfl ?_
  refine lv_if_eq (tgt := 16) hx hb dJ0_charAt_5068e_4 (by decide) (fun hq => ?_) (fun hq => ?_)
  · have hf := gift hq hf
    exact (gno_some hf).elim
  · have hf := giff hq hf
    refine gw_aload_n hx hb dJ0_charAt_5068e_7 rfl (lv_at hl 0 rfl) ?_
    refine gw_tval C I kw_106 dJ0_charAt_5068e_8 hf (fun hf => ?_)
    refine lv_iload_n hx hb dJ0_charAt_5068e_11 rfl (lv_at hl 1 rfl) ?_
    refine gw_callS (rest := []) C I hl.1 (m_J1_charAt_3b067 G l a0 a1) gl_RJ0_495 kw_110 ⟨Nat.le_of_ble_eq_true rfl, Nat.le_of_ble_eq_true rfl⟩ rfl (gc4 (Nat.le_of_ble_eq_true rfl)) rfl dJ0_charAt_5068e_12 hf (fun v2 σ H locs cells slots I hf => ?_)
    refine W.eq (g2 := F0 m 15 ls [.int v2]) rfl ?_
    exact gw_cret (ty := .char) C I hr dJ0_charAt_5068e_15 hf
end S_J0_charAt_5068e
theorem m_J0_charAt_5068e (G : gX) (l : Launch) (a0 : Nat) (a1 : Int32) : gMet G l yJ0_charAt_5068e cJ0_charAt_5068e 2 (some .char) 3 64 [va_rf (some (gK G a0)), .int a1] gri (f_J0_charAt_5068e a0 a1) := by
  refine gMet_of (by decide) ?_
  intro σ y p e s m below meth c mc ms hf C hr hnm I
  obtain ⟨ls, e1, hl⟩ := gentry m [va_rf (some (gK G a0)), .int a1] 2 [(0, va_rf (some (gK G a0))), (1, .int a1)] (by simp [lg_sl, grc, gcat_i, gcat_l]) (by simp [lv_args, grc, gcat_i, gcat_l])
  rw [e1]
  exact w_J0_charAt_5068e_0 C hr a0 a1 _ _ _ _ _ _ hf I hl
def f_X5_addText_2 (rec2 : Option Nat → Nat → Int32 → gM Unit) (x0 : Option Nat) (x1 : Nat) (x2 : Int32) : gM Unit := gb (tk x1) fun _ => gb (f_J0_length_8abf5 x1) fun v1 => if v1 ≤ x2 then (gp ()) else (gb (tk x1) fun _ => gb (f_J0_charAt_5068e x1 x2) fun v2 => gb (nn 4 x0) fun _ => gb (f_X5_add x0 v2) fun _ => rec2 x0 x1 (x2 + 1))
def f_X5_addText_L2  : Nat → Option Nat → Nat → Int32 → gM Unit
  | 0, _, _, _ => gno
  | n + 1, x0, x1, x2 => f_X5_addText_2  (f_X5_addText_L2  n) x0 x1 x2
def f_X5_addText  (a0 : Option Nat) (a1 : Nat) : gM Unit := f_X5_addText_L2  gF a0 a1 0
section S_X5_addText
variable {G : gX} {p : Program} {l : Launch} {e : Env} {s : State} {m : MethodId} {args : Array Value} {below : List Frame} {meth : Method} {c : Code} {mc ms : Nat} {y : Unit × gS}
set_option maxHeartbeats 4000000 in
set_option maxRecDepth 100000 in
theorem w_X5_addText_2 (C : gC G p s m args meth c cX5_addText 3 RX5) (hr : meth.sig.returnType = none) {rec2 : Option Nat → Nat → Int32 → gM Unit} (hrec2 : ∀ (x0 : Option Nat) (x1 : Nat) (x2 : Int32), gJ G p l e 4 85 mc ms s m args below meth c grv y 3 2 [(0, va_rf x0), (1, va_rf (some (gK G x1))), (2, .int x2)] [] (rec2 x0 x1 x2)) (x0 : Option Nat) (x1 : Nat) (x2 : Int32) : gJ G p l e 4 85 mc ms s m args below meth c grv y 3 2 [(0, va_rf x0), (1, va_rf (some (gK G x1))), (2, .int x2)] [] (f_X5_addText_2 rec2 x0 x1 x2) := by
  have hx := C.1
  have hb := C.2.1
  intro σ H locs cells slots ls hf I hl
  unfold f_X5_addText_2 at hf
  refine lv_iload_n hx hb dX5_addText_2 rfl (lv_at hl 2 rfl) ?_
  refine gw_aload_n hx hb dX5_addText_3 rfl (lv_at hl 1 rfl) ?_
  refine gw_callT (rest := [.int x2]) C I hl.1 (m_J0_length_8abf5 G l x1) gl_RX5_33 gn_J0_length_8abf5 ⟨Nat.le_of_ble_eq_true rfl, Nat.le_of_ble_eq_true rfl⟩ rfl (gc4 (Nat.le_of_ble_eq_true rfl)) rfl dX5_addText_4 hf (fun v1 σ H locs cells slots I hf => ?_)
  refine W.eq (g2 := F0 m 7 ls [.int v1, .int x2]) rfl ?_
  refine lv_icmp_ge (tgt := 25) hx hb dX5_addText_7 (by decide) (fun hq => ?_) (fun hq => ?_)
  · have hf := gift hq hf
    exact gw_vret C I hr dX5_addText_25 hf
  · have hf := giff hq hf
    refine gw_aload_n hx hb dX5_addText_10 rfl (lv_at hl 0 rfl) ?_
    refine gw_aload_n hx hb dX5_addText_11 rfl (lv_at hl 1 rfl) ?_
    refine lv_iload_n hx hb dX5_addText_12 rfl (lv_at hl 2 rfl) ?_
    refine gw_callT (rest := [va_rf x0]) C I hl.1 (m_J0_charAt_5068e G l x1 x2) gl_RX5_38 gn_J0_charAt_5068e ⟨Nat.le_of_ble_eq_true rfl, Nat.le_of_ble_eq_true rfl⟩ rfl (gc4 (Nat.le_of_ble_eq_true rfl)) rfl dX5_addText_13 hf (fun v2 σ H locs cells slots I hf => ?_)
    refine W.eq (g2 := F0 m 16 ls [.int v2, va_rf x0]) rfl ?_
    refine gw_callV (rest := []) C I hl.1 gcls_4 (m_X5_add G l x0 v2) gl_RX5_29 gn_X5_add ⟨Nat.le_of_ble_eq_true rfl, Nat.le_of_ble_eq_true rfl⟩ rfl (gc4 (Nat.le_of_ble_eq_true rfl)) rfl dX5_addText_16 hf (fun _ σ H locs cells slots I hf => ?_)
    refine W.eq (g2 := F0 m 19 ls []) rfl ?_
    refine lv_iinc (v := x2 + 1) (lv' := [(2, .int (x2 + 1)), (0, va_rf x0), (1, va_rf (some (gK G x1)))]) hx hb dX5_addText_19 hl (k := 2) rfl rfl (by decide) rfl (fun ls hl => ?_)
    refine lv_goto (tgt := 2) hx hb dX5_addText_22 (by decide) ?_
    exact hrec2 x0 x1 (x2 + 1) _ _ _ _ _ _ hf I (lv_sub hl [1, 2, 0] rfl)
theorem w_X5_addText_L2 (C : gC G p s m args meth c cX5_addText 3 RX5) (hr : meth.sig.returnType = none)  : ∀ (n : Nat) (x0 : Option Nat) (x1 : Nat) (x2 : Int32), gJ G p l e 4 85 mc ms s m args below meth c grv y 3 2 [(0, va_rf x0), (1, va_rf (some (gK G x1))), (2, .int x2)] [] (f_X5_addText_L2  n x0 x1 x2) := by
  intro n
  induction n with
  | zero => intro x0 x1 x2 σ H locs cells slots ls hf; exact (gno_some hf).elim
  | succ n ih => intro x0 x1 x2; exact w_X5_addText_2 C hr  ih x0 x1 x2
set_option maxHeartbeats 4000000 in
set_option maxRecDepth 100000 in
theorem w_X5_addText_0 (C : gC G p s m args meth c cX5_addText 3 RX5) (hr : meth.sig.returnType = none)  (a0 : Option Nat) (a1 : Nat) : gJ G p l e 4 85 mc ms s m args below meth c grv y 3 0 [(0, va_rf a0), (1, va_rf (some (gK G a1)))] [] (f_X5_addText  a0 a1) := by
  have hx := C.1
  have hb := C.2.1
  intro σ H locs cells slots ls hf I hl
  unfold f_X5_addText at hf
  refine lv_iconst (v := 0) hx hb dX5_addText_0 kc_i_0 ?_
  refine lv_istore_n (lv' := [(2, .int 0), (0, va_rf a0), (1, va_rf (some (gK G a1)))]) hx hb dX5_addText_1 rfl hl (by decide) rfl (fun ls hl => ?_)
  exact w_X5_addText_L2 C hr  _ a0 a1 0 _ _ _ _ _ _ hf I (lv_sub hl [1, 2, 0] rfl)
end S_X5_addText
theorem m_X5_addText (G : gX) (l : Launch) (a0 : Option Nat) (a1 : Nat) : gMet G l yX5_addText cX5_addText 3 none 4 85 [va_rf a0, va_rf (some (gK G a1))] grv (f_X5_addText a0 a1) := by
  refine gMet_of (by decide) ?_
  intro σ y p e s m below meth c mc ms hf C hr hnm I
  obtain ⟨ls, e1, hl⟩ := gentry m [va_rf a0, va_rf (some (gK G a1))] 3 [(0, va_rf a0), (1, va_rf (some (gK G a1)))] (by simp [lg_sl, grc, gcat_i, gcat_l]) (by simp [lv_args, grc, gcat_i, gcat_l])
  rw [e1]
  exact w_X5_addText_0 C hr a0 a1 _ _ _ _ _ _ hf I hl
def f_X6_setScheme  (a0 : Option Nat) (a1 : Int32) : gM Unit := gb (wI 5 0 a0 a1) fun _ => gb (rR 5 1 a0) fun v1 => gb (nn 4 v1) fun _ => gb (f_X5_cutTo v1 0) fun _ => gb (rR 5 1 a0) fun v2 => gb (f_X6_nameOf a1) fun v3 => gb (nn 4 v2) fun _ => gb (f_X5_addText v2 v3) fun _ => gp ()
section S_X6_setScheme
variable {G : gX} {p : Program} {l : Launch} {e : Env} {s : State} {m : MethodId} {args : Array Value} {below : List Frame} {meth : Method} {c : Code} {mc ms : Nat} {y : Unit × gS}
set_option maxHeartbeats 4000000 in
set_option maxRecDepth 100000 in
theorem w_X6_setScheme_0 (C : gC G p s m args meth c cX6_setScheme 2 RX6) (hr : meth.sig.returnType = none)  (a0 : Option Nat) (a1 : Int32) : gJ G p l e 5 107 mc ms s m args below meth c grv y 2 0 [(0, va_rf a0), (1, .int a1)] [] (f_X6_setScheme  a0 a1) := by
  have hx := C.1
  have hb := C.2.1
  intro σ H locs cells slots ls hf I hl
  unfold f_X6_setScheme at hf
  refine gw_aload_n hx hb dX6_setScheme_0 rfl (lv_at hl 0 rfl) ?_
  refine lv_iload_n hx hb dX6_setScheme_1 rfl (lv_at hl 1 rfl) ?_
  refine gw_puti (k := 0) C I gcls_5 (by decide) rfl kw_46 (Or.inl rfl) (by decide +kernel) dX6_setScheme_2 hf (fun σ H locs I hf => ?_)
  refine gw_aload_n hx hb dX6_setScheme_5 rfl (lv_at hl 0 rfl) ?_
  refine gw_getr (k := 1) C I gcls_5 (by decide) rfl kw_48 dX6_setScheme_6 hf (fun v1 hf => ?_)
  refine lv_iconst (v := 0) hx hb dX6_setScheme_9 kc_i_0 ?_
  refine gw_callV (rest := []) C I hl.1 gcls_4 (m_X5_cutTo G l v1 0) gl_RX6_67 gn_X5_cutTo ⟨Nat.le_of_ble_eq_true rfl, Nat.le_of_ble_eq_true rfl⟩ rfl (gc4 (Nat.le_of_ble_eq_true rfl)) rfl dX6_setScheme_10 hf (fun _ σ H locs cells slots I hf => ?_)
  refine W.eq (g2 := F0 m 13 ls []) rfl ?_
  refine gw_aload_n hx hb dX6_setScheme_13 rfl (lv_at hl 0 rfl) ?_
  refine gw_getr (k := 1) C I gcls_5 (by decide) rfl kw_48 dX6_setScheme_14 hf (fun v2 hf => ?_)
  refine lv_iload_n hx hb dX6_setScheme_17 rfl (lv_at hl 1 rfl) ?_
  refine gw_callS (rest := [va_rf v2]) C I hl.1 (m_X6_nameOf G l a1) gl_RX6_71 kw_111 ⟨Nat.le_of_ble_eq_true rfl, Nat.le_of_ble_eq_true rfl⟩ rfl (gc4 (Nat.le_of_ble_eq_true rfl)) rfl dX6_setScheme_18 hf (fun v3 σ H locs cells slots I hf => ?_)
  refine W.eq (g2 := F0 m 21 ls [va_rf (some (gK G v3)), va_rf v2]) rfl ?_
  refine gw_callV (rest := []) C I hl.1 gcls_4 (m_X5_addText G l v2 v3) gl_RX6_75 gn_X5_addText ⟨Nat.le_of_ble_eq_true rfl, Nat.le_of_ble_eq_true rfl⟩ rfl (gc4 (Nat.le_of_ble_eq_true rfl)) rfl dX6_setScheme_21 hf (fun _ σ H locs cells slots I hf => ?_)
  refine W.eq (g2 := F0 m 24 ls []) rfl ?_
  exact gw_vret C I hr dX6_setScheme_24 hf
end S_X6_setScheme
theorem m_X6_setScheme (G : gX) (l : Launch) (a0 : Option Nat) (a1 : Int32) : gMet G l yX6_setScheme cX6_setScheme 2 none 5 107 [va_rf a0, .int a1] grv (f_X6_setScheme a0 a1) := by
  refine gMet_of (by decide) ?_
  intro σ y p e s m below meth c mc ms hf C hr hnm I
  obtain ⟨ls, e1, hl⟩ := gentry m [va_rf a0, .int a1] 2 [(0, va_rf a0), (1, .int a1)] (by simp [lg_sl, grc, gcat_i, gcat_l]) (by simp [lv_args, grc, gcat_i, gcat_l])
  rw [e1]
  exact w_X6_setScheme_0 C hr a0 a1 _ _ _ _ _ _ hf I hl
def f_X1_low  (a0 : Int32) : gM Int32 := if a0 < 65 then (gp a0) else (if 90 < a0 then (gp a0) else (gp (a0 + 32)))
section S_X1_low
variable {G : gX} {p : Program} {l : Launch} {e : Env} {s : State} {m : MethodId} {args : Array Value} {below : List Frame} {meth : Method} {c : Code} {mc ms : Nat} {y : Int32 × gS}
set_option maxHeartbeats 4000000 in
set_option maxRecDepth 100000 in
theorem w_X1_low_0 (C : gC G p s m args meth c cX1_low 1 RX1) (hr : meth.sig.returnType = (some .int))  (a0 : Int32) : gJ G p l e 0 0 mc ms s m args below meth c gri y 1 0 [(0, .int a0)] [] (f_X1_low  a0) := by
  have hx := C.1
  have hb := C.2.1
  intro σ H locs cells slots ls hf I hl
  unfold f_X1_low at hf
  refine lv_iload_n hx hb dX1_low_0 rfl (lv_at hl 0 rfl) ?_
  refine lv_bipush (v := 65) hx hb dX1_low_1 kc_b_65 ?_
  refine lv_icmp_lt (tgt := 19) hx hb dX1_low_3 (by decide) (fun hq => ?_) (fun hq => ?_)
  · have hf := gift hq hf
    refine lv_iload_n hx hb dX1_low_19 rfl (lv_at hl 0 rfl) ?_
    exact gw_iret C I hr dX1_low_20 hf
  · have hf := giff hq hf
    refine lv_iload_n hx hb dX1_low_6 rfl (lv_at hl 0 rfl) ?_
    refine lv_bipush (v := 90) hx hb dX1_low_7 kc_b_90 ?_
    refine lv_icmp_gt (tgt := 19) hx hb dX1_low_9 (by decide) (fun hq => ?_) (fun hq => ?_)
    · have hf := gift hq hf
      refine lv_iload_n hx hb dX1_low_19 rfl (lv_at hl 0 rfl) ?_
      exact gw_iret C I hr dX1_low_20 hf
    · have hf := giff hq hf
      refine lv_iload_n hx hb dX1_low_12 rfl (lv_at hl 0 rfl) ?_
      refine lv_bipush (v := 32) hx hb dX1_low_13 kc_b_32 ?_
      refine lv_iadd hx hb dX1_low_15 ?_
      refine lv_goto (tgt := 20) hx hb dX1_low_16 (by decide) ?_
      exact gw_iret C I hr dX1_low_20 hf
end S_X1_low
theorem m_X1_low (G : gX) (l : Launch) (a0 : Int32) : gMet G l yX1_low cX1_low 1 (some .int) 0 0 [.int a0] gri (f_X1_low a0) := by
  refine gMet_of (by decide) ?_
  intro σ y p e s m below meth c mc ms hf C hr hnm I
  obtain ⟨ls, e1, hl⟩ := gentry m [.int a0] 1 [(0, .int a0)] (by simp [lg_sl, grc, gcat_i, gcat_l]) (by simp [lv_args, grc, gcat_i, gcat_l])
  rw [e1]
  exact w_X1_low_0 C hr a0 _ _ _ _ _ _ hf I hl
def f_X7_isWord_12 (rec12 : Option Nat → Nat → Int32 → gM Int32) (x0 : Option Nat) (x2 : Nat) (x3 : Int32) : gM Int32 := gb (tk x2) fun _ => gb (f_J0_length_8abf5 x2) fun v1 => if v1 ≤ x3 then (gz 1) else (gb (rR 6 0 x0) fun v2 => gb (nn 4 v2) fun _ => gb (f_X5_byteAt v2 x3) fun v3 => gb (f_X1_low v3) fun v4 => gb (tk x2) fun _ => gb (f_J0_charAt_5068e x2 x3) fun v5 => if v4 = v5 then (rec12 x0 x2 (x3 + 1)) else (gz 0))
def f_X7_isWord_L12  : Nat → Option Nat → Nat → Int32 → gM Int32
  | 0, _, _, _ => gno
  | n + 1, x0, x2, x3 => f_X7_isWord_12  (f_X7_isWord_L12  n) x0 x2 x3
def f_X7_isWord  (a0 : Option Nat) (a1 : Int32) (a2 : Nat) : gM Int32 := gb (tk a2) fun _ => gb (f_J0_length_8abf5 a2) fun v1 => if a1 = v1 then (f_X7_isWord_L12  gF a0 a2 0) else (gz 0)
section S_X7_isWord
variable {G : gX} {p : Program} {l : Launch} {e : Env} {s : State} {m : MethodId} {args : Array Value} {below : List Frame} {meth : Method} {c : Code} {mc ms : Nat} {y : Int32 × gS}
set_option maxHeartbeats 4000000 in
set_option maxRecDepth 100000 in
theorem w_X7_isWord_12 (C : gC G p s m args meth c cX7_isWord 4 RX7) (hr : meth.sig.returnType = (some .boolean)) {rec12 : Option Nat → Nat → Int32 → gM Int32} (hrec12 : ∀ (x0 : Option Nat) (x2 : Nat) (x3 : Int32), gJ G p l e 4 85 mc ms s m args below meth c gri y 4 12 [(0, va_rf x0), (2, va_rf (some (gK G x2))), (3, .int x3)] [] (rec12 x0 x2 x3)) (x0 : Option Nat) (x2 : Nat) (x3 : Int32) : gJ G p l e 4 85 mc ms s m args below meth c gri y 4 12 [(0, va_rf x0), (2, va_rf (some (gK G x2))), (3, .int x3)] [] (f_X7_isWord_12 rec12 x0 x2 x3) := by
  have hx := C.1
  have hb := C.2.1
  intro σ H locs cells slots ls hf I hl
  unfold f_X7_isWord_12 at hf
  refine lv_iload_n hx hb dX7_isWord_12 rfl (lv_at hl 2 rfl) ?_
  refine gw_aload_n hx hb dX7_isWord_13 rfl (lv_at hl 1 rfl) ?_
  refine gw_callT (rest := [.int x3]) C I hl.1 (m_J0_length_8abf5 G l x2) gl_RX7_126 gn_J0_length_8abf5 ⟨Nat.le_of_ble_eq_true rfl, Nat.le_of_ble_eq_true rfl⟩ rfl (gc4 (Nat.le_of_ble_eq_true rfl)) rfl dX7_isWord_14 hf (fun v1 σ H locs cells slots I hf => ?_)
  refine W.eq (g2 := F0 m 17 ls [.int v1, .int x3]) rfl ?_
  refine lv_icmp_ge (tgt := 47) hx hb dX7_isWord_17 (by decide) (fun hq => ?_) (fun hq => ?_)
  · have hf := gift hq hf
    refine lv_iconst (v := 1) hx hb dX7_isWord_47 kc_i_1 ?_
    exact gw_zret C I hr dX7_isWord_48 hf
  · have hf := giff hq hf
    refine gw_aload_n hx hb dX7_isWord_20 rfl (lv_at hl 0 rfl) ?_
    refine gw_getr (k := 0) C I gcls_6 (by decide) rfl kw_27 dX7_isWord_21 hf (fun v2 hf => ?_)
    refine lv_iload_n hx hb dX7_isWord_24 rfl (lv_at hl 2 rfl) ?_
    refine gw_callV (rest := []) C I hl.1 gcls_4 (m_X5_byteAt G l v2 x3) gl_RX7_61 gn_X5_byteAt ⟨Nat.le_of_ble_eq_true rfl, Nat.le_of_ble_eq_true rfl⟩ rfl (gc4 (Nat.le_of_ble_eq_true rfl)) rfl dX7_isWord_25 hf (fun v3 σ H locs cells slots I hf => ?_)
    refine W.eq (g2 := F0 m 28 ls [.int v3]) rfl ?_
    refine gw_callS (rest := []) C I hl.1 (m_X1_low G l v3) gl_RX7_130 kw_112 ⟨Nat.le_of_ble_eq_true rfl, Nat.le_of_ble_eq_true rfl⟩ rfl (gc4 (Nat.le_of_ble_eq_true rfl)) rfl dX7_isWord_28 hf (fun v4 σ H locs cells slots I hf => ?_)
    refine W.eq (g2 := F0 m 31 ls [.int v4]) rfl ?_
    refine gw_aload_n hx hb dX7_isWord_31 rfl (lv_at hl 1 rfl) ?_
    refine lv_iload_n hx hb dX7_isWord_32 rfl (lv_at hl 2 rfl) ?_
    refine gw_callT (rest := [.int v4]) C I hl.1 (m_J0_charAt_5068e G l x2 x3) gl_RX7_133 gn_J0_charAt_5068e ⟨Nat.le_of_ble_eq_true rfl, Nat.le_of_ble_eq_true rfl⟩ rfl (gc4 (Nat.le_of_ble_eq_true rfl)) rfl dX7_isWord_33 hf (fun v5 σ H locs cells slots I hf => ?_)
    refine W.eq (g2 := F0 m 36 ls [.int v5, .int v4]) rfl ?_
    refine lv_icmp_eq (tgt := 41) hx hb dX7_isWord_36 (by decide) (fun hq => ?_) (fun hq => ?_)
    · have hf := gift hq hf
      refine lv_iinc (v := x3 + 1) (lv' := [(3, .int (x3 + 1)), (0, va_rf x0), (2, va_rf (some (gK G x2)))]) hx hb dX7_isWord_41 hl (k := 2) rfl rfl (by decide) rfl (fun ls hl => ?_)
      refine lv_goto (tgt := 12) hx hb dX7_isWord_44 (by decide) ?_
      exact hrec12 x0 x2 (x3 + 1) _ _ _ _ _ _ hf I (lv_sub hl [1, 2, 0] rfl)
    · have hf := giff hq hf
      refine lv_iconst (v := 0) hx hb dX7_isWord_39 kc_i_0 ?_
      exact gw_zret C I hr dX7_isWord_40 hf
theorem w_X7_isWord_L12 (C : gC G p s m args meth c cX7_isWord 4 RX7) (hr : meth.sig.returnType = (some .boolean))  : ∀ (n : Nat) (x0 : Option Nat) (x2 : Nat) (x3 : Int32), gJ G p l e 4 85 mc ms s m args below meth c gri y 4 12 [(0, va_rf x0), (2, va_rf (some (gK G x2))), (3, .int x3)] [] (f_X7_isWord_L12  n x0 x2 x3) := by
  intro n
  induction n with
  | zero => intro x0 x2 x3 σ H locs cells slots ls hf; exact (gno_some hf).elim
  | succ n ih => intro x0 x2 x3; exact w_X7_isWord_12 C hr  ih x0 x2 x3
set_option maxHeartbeats 4000000 in
set_option maxRecDepth 100000 in
theorem w_X7_isWord_0 (C : gC G p s m args meth c cX7_isWord 4 RX7) (hr : meth.sig.returnType = (some .boolean))  (a0 : Option Nat) (a1 : Int32) (a2 : Nat) : gJ G p l e 4 85 mc ms s m args below meth c gri y 4 0 [(0, va_rf a0), (1, .int a1), (2, va_rf (some (gK G a2)))] [] (f_X7_isWord  a0 a1 a2) := by
  have hx := C.1
  have hb := C.2.1
  intro σ H locs cells slots ls hf I hl
  unfold f_X7_isWord at hf
  refine lv_iload_n hx hb dX7_isWord_0 rfl (lv_at hl 1 rfl) ?_
  refine gw_aload_n hx hb dX7_isWord_1 rfl (lv_at hl 2 rfl) ?_
  refine gw_callT (rest := [.int a1]) C I hl.1 (m_J0_length_8abf5 G l a2) gl_RX7_126 gn_J0_length_8abf5 ⟨Nat.le_of_ble_eq_true rfl, Nat.le_of_ble_eq_true rfl⟩ rfl (gc4 (Nat.le_of_ble_eq_true rfl)) rfl dX7_isWord_2 hf (fun v1 σ H locs cells slots I hf => ?_)
  refine W.eq (g2 := F0 m 5 ls [.int v1, .int a1]) rfl ?_
  refine lv_icmp_eq (tgt := 10) hx hb dX7_isWord_5 (by decide) (fun hq => ?_) (fun hq => ?_)
  · have hf := gift hq hf
    refine lv_iconst (v := 0) hx hb dX7_isWord_10 kc_i_0 ?_
    refine lv_istore_n (lv' := [(3, .int 0), (0, va_rf a0), (1, .int a1), (2, va_rf (some (gK G a2)))]) hx hb dX7_isWord_11 rfl hl (by decide) rfl (fun ls hl => ?_)
    exact w_X7_isWord_L12 C hr  _ a0 a2 0 _ _ _ _ _ _ hf I (lv_sub hl [1, 3, 0] rfl)
  · have hf := giff hq hf
    refine lv_iconst (v := 0) hx hb dX7_isWord_8 kc_i_0 ?_
    exact gw_zret C I hr dX7_isWord_9 hf
end S_X7_isWord
theorem m_X7_isWord (G : gX) (l : Launch) (a0 : Option Nat) (a1 : Int32) (a2 : Nat) : gMet G l yX7_isWord cX7_isWord 4 (some .boolean) 4 85 [va_rf a0, .int a1, va_rf (some (gK G a2))] gri (f_X7_isWord a0 a1 a2) := by
  refine gMet_of (by decide) ?_
  intro σ y p e s m below meth c mc ms hf C hr hnm I
  obtain ⟨ls, e1, hl⟩ := gentry m [va_rf a0, .int a1, va_rf (some (gK G a2))] 4 [(0, va_rf a0), (1, .int a1), (2, va_rf (some (gK G a2)))] (by simp [lg_sl, grc, gcat_i, gcat_l]) (by simp [lv_args, grc, gcat_i, gcat_l])
  rw [e1]
  exact w_X7_isWord_0 C hr a0 a1 a2 _ _ _ _ _ _ hf I hl
def f_X7_schemeUpTo_2 (rec2 : Option Nat → Int32 → Int32 → gM Int32) (x0 : Option Nat) (x1 : Int32) (x2 : Int32) : gM Int32 := if 5 ≤ x2 then (gp (-1)) else (gb (f_X6_nameOf x2) fun v1 => gb (nn 6 x0) fun _ => gb (f_X7_isWord x0 x1 v1) fun v2 => if v2 = 0 then (rec2 x0 x1 (x2 + 1)) else (gp x2))
def f_X7_schemeUpTo_L2  : Nat → Option Nat → Int32 → Int32 → gM Int32
  | 0, _, _, _ => gno
  | n + 1, x0, x1, x2 => f_X7_schemeUpTo_2  (f_X7_schemeUpTo_L2  n) x0 x1 x2
def f_X7_schemeUpTo  (a0 : Option Nat) (a1 : Int32) : gM Int32 := f_X7_schemeUpTo_L2  gF a0 a1 0
section S_X7_schemeUpTo
variable {G : gX} {p : Program} {l : Launch} {e : Env} {s : State} {m : MethodId} {args : Array Value} {below : List Frame} {meth : Method} {c : Code} {mc ms : Nat} {y : Int32 × gS}
set_option maxHeartbeats 4000000 in
set_option maxRecDepth 100000 in
theorem w_X7_schemeUpTo_2 (C : gC G p s m args meth c cX7_schemeUpTo 3 RX7) (hr : meth.sig.returnType = (some .int)) {rec2 : Option Nat → Int32 → Int32 → gM Int32} (hrec2 : ∀ (x0 : Option Nat) (x1 : Int32) (x2 : Int32), gJ G p l e 5 108 mc ms s m args below meth c gri y 3 2 [(0, va_rf x0), (1, .int x1), (2, .int x2)] [] (rec2 x0 x1 x2)) (x0 : Option Nat) (x1 : Int32) (x2 : Int32) : gJ G p l e 5 108 mc ms s m args below meth c gri y 3 2 [(0, va_rf x0), (1, .int x1), (2, .int x2)] [] (f_X7_schemeUpTo_2 rec2 x0 x1 x2) := by
  have hx := C.1
  have hb := C.2.1
  intro σ H locs cells slots ls hf I hl
  unfold f_X7_schemeUpTo_2 at hf
  refine lv_iload_n hx hb dX7_schemeUpTo_2 rfl (lv_at hl 2 rfl) ?_
  refine lv_iconst (v := 5) hx hb dX7_schemeUpTo_3 kc_i_5 ?_
  refine lv_icmp_ge (tgt := 27) hx hb dX7_schemeUpTo_4 (by decide) (fun hq => ?_) (fun hq => ?_)
  · have hf := gift hq hf
    refine lv_iconst (v := (-1)) hx hb dX7_schemeUpTo_27 kc_i_m1 ?_
    exact gw_iret C I hr dX7_schemeUpTo_28 hf
  · have hf := giff hq hf
    refine gw_aload_n hx hb dX7_schemeUpTo_7 rfl (lv_at hl 0 rfl) ?_
    refine lv_iload_n hx hb dX7_schemeUpTo_8 rfl (lv_at hl 1 rfl) ?_
    refine lv_iload_n hx hb dX7_schemeUpTo_9 rfl (lv_at hl 2 rfl) ?_
    refine gw_callS (rest := [.int x1, va_rf x0]) C I hl.1 (m_X6_nameOf G l x2) gl_RX7_119 kw_111 ⟨Nat.le_of_ble_eq_true rfl, Nat.le_of_ble_eq_true rfl⟩ rfl (gc4 (Nat.le_of_ble_eq_true rfl)) rfl dX7_schemeUpTo_10 hf (fun v1 σ H locs cells slots I hf => ?_)
    refine W.eq (g2 := F0 m 13 ls [va_rf (some (gK G v1)), .int x1, va_rf x0]) rfl ?_
    refine gw_callV (rest := []) C I hl.1 gcls_6 (m_X7_isWord G l x0 x1 v1) gl_RX7_123 gn_X7_isWord ⟨Nat.le_of_ble_eq_true rfl, Nat.le_of_ble_eq_true rfl⟩ rfl (gc4 (Nat.le_of_ble_eq_true rfl)) rfl dX7_schemeUpTo_13 hf (fun v2 σ H locs cells slots I hf => ?_)
    refine W.eq (g2 := F0 m 16 ls [.int v2]) rfl ?_
    refine lv_if_eq (tgt := 21) hx hb dX7_schemeUpTo_16 (by decide) (fun hq => ?_) (fun hq => ?_)
    · have hf := gift hq hf
      refine lv_iinc (v := x2 + 1) (lv' := [(2, .int (x2 + 1)), (0, va_rf x0), (1, .int x1)]) hx hb dX7_schemeUpTo_21 hl (k := 2) rfl rfl (by decide) rfl (fun ls hl => ?_)
      refine lv_goto (tgt := 2) hx hb dX7_schemeUpTo_24 (by decide) ?_
      exact hrec2 x0 x1 (x2 + 1) _ _ _ _ _ _ hf I (lv_sub hl [1, 2, 0] rfl)
    · have hf := giff hq hf
      refine lv_iload_n hx hb dX7_schemeUpTo_19 rfl (lv_at hl 2 rfl) ?_
      exact gw_iret C I hr dX7_schemeUpTo_20 hf
theorem w_X7_schemeUpTo_L2 (C : gC G p s m args meth c cX7_schemeUpTo 3 RX7) (hr : meth.sig.returnType = (some .int))  : ∀ (n : Nat) (x0 : Option Nat) (x1 : Int32) (x2 : Int32), gJ G p l e 5 108 mc ms s m args below meth c gri y 3 2 [(0, va_rf x0), (1, .int x1), (2, .int x2)] [] (f_X7_schemeUpTo_L2  n x0 x1 x2) := by
  intro n
  induction n with
  | zero => intro x0 x1 x2 σ H locs cells slots ls hf; exact (gno_some hf).elim
  | succ n ih => intro x0 x1 x2; exact w_X7_schemeUpTo_2 C hr  ih x0 x1 x2
set_option maxHeartbeats 4000000 in
set_option maxRecDepth 100000 in
theorem w_X7_schemeUpTo_0 (C : gC G p s m args meth c cX7_schemeUpTo 3 RX7) (hr : meth.sig.returnType = (some .int))  (a0 : Option Nat) (a1 : Int32) : gJ G p l e 5 108 mc ms s m args below meth c gri y 3 0 [(0, va_rf a0), (1, .int a1)] [] (f_X7_schemeUpTo  a0 a1) := by
  have hx := C.1
  have hb := C.2.1
  intro σ H locs cells slots ls hf I hl
  unfold f_X7_schemeUpTo at hf
  refine lv_iconst (v := 0) hx hb dX7_schemeUpTo_0 kc_i_0 ?_
  refine lv_istore_n (lv' := [(2, .int 0), (0, va_rf a0), (1, .int a1)]) hx hb dX7_schemeUpTo_1 rfl hl (by decide) rfl (fun ls hl => ?_)
  exact w_X7_schemeUpTo_L2 C hr  _ a0 a1 0 _ _ _ _ _ _ hf I (lv_sub hl [1, 2, 0] rfl)
end S_X7_schemeUpTo
theorem m_X7_schemeUpTo (G : gX) (l : Launch) (a0 : Option Nat) (a1 : Int32) : gMet G l yX7_schemeUpTo cX7_schemeUpTo 3 (some .int) 5 108 [va_rf a0, .int a1] gri (f_X7_schemeUpTo a0 a1) := by
  refine gMet_of (by decide) ?_
  intro σ y p e s m below meth c mc ms hf C hr hnm I
  obtain ⟨ls, e1, hl⟩ := gentry m [va_rf a0, .int a1] 3 [(0, va_rf a0), (1, .int a1)] (by simp [lg_sl, grc, gcat_i, gcat_l]) (by simp [lv_args, grc, gcat_i, gcat_l])
  rw [e1]
  exact w_X7_schemeUpTo_0 C hr a0 a1 _ _ _ _ _ _ hf I hl
def f_X5_hasAt_2 (rec2 : Option Nat → Int32 → Nat → Int32 → gM Int32) (x0 : Option Nat) (x1 : Int32) (x2 : Nat) (x3 : Int32) : gM Int32 := gb (tk x2) fun _ => gb (f_J0_length_8abf5 x2) fun v1 => if v1 ≤ x3 then (gz 1) else (gb (nn 4 x0) fun _ => gb (f_X5_byteAt x0 (x1 + x3)) fun v2 => gb (tk x2) fun _ => gb (f_J0_charAt_5068e x2 x3) fun v3 => if v2 = v3 then (rec2 x0 x1 x2 (x3 + 1)) else (gz 0))
def f_X5_hasAt_L2  : Nat → Option Nat → Int32 → Nat → Int32 → gM Int32
  | 0, _, _, _, _ => gno
  | n + 1, x0, x1, x2, x3 => f_X5_hasAt_2  (f_X5_hasAt_L2  n) x0 x1 x2 x3
def f_X5_hasAt  (a0 : Option Nat) (a1 : Int32) (a2 : Nat) : gM Int32 := f_X5_hasAt_L2  gF a0 a1 a2 0
section S_X5_hasAt
variable {G : gX} {p : Program} {l : Launch} {e : Env} {s : State} {m : MethodId} {args : Array Value} {below : List Frame} {meth : Method} {c : Code} {mc ms : Nat} {y : Int32 × gS}
set_option maxHeartbeats 4000000 in
set_option maxRecDepth 100000 in
theorem w_X5_hasAt_2 (C : gC G p s m args meth c cX5_hasAt 4 RX5) (hr : meth.sig.returnType = (some .boolean)) {rec2 : Option Nat → Int32 → Nat → Int32 → gM Int32} (hrec2 : ∀ (x0 : Option Nat) (x1 : Int32) (x2 : Nat) (x3 : Int32), gJ G p l e 4 85 mc ms s m args below meth c gri y 4 2 [(0, va_rf x0), (1, .int x1), (2, va_rf (some (gK G x2))), (3, .int x3)] [] (rec2 x0 x1 x2 x3)) (x0 : Option Nat) (x1 : Int32) (x2 : Nat) (x3 : Int32) : gJ G p l e 4 85 mc ms s m args below meth c gri y 4 2 [(0, va_rf x0), (1, .int x1), (2, va_rf (some (gK G x2))), (3, .int x3)] [] (f_X5_hasAt_2 rec2 x0 x1 x2 x3) := by
  have hx := C.1
  have hb := C.2.1
  intro σ H locs cells slots ls hf I hl
  unfold f_X5_hasAt_2 at hf
  refine lv_iload_n hx hb dX5_hasAt_2 rfl (lv_at hl 3 rfl) ?_
  refine gw_aload_n hx hb dX5_hasAt_3 rfl (lv_at hl 2 rfl) ?_
  refine gw_callT (rest := [.int x3]) C I hl.1 (m_J0_length_8abf5 G l x2) gl_RX5_33 gn_J0_length_8abf5 ⟨Nat.le_of_ble_eq_true rfl, Nat.le_of_ble_eq_true rfl⟩ rfl (gc4 (Nat.le_of_ble_eq_true rfl)) rfl dX5_hasAt_4 hf (fun v1 σ H locs cells slots I hf => ?_)
  refine W.eq (g2 := F0 m 7 ls [.int v1, .int x3]) rfl ?_
  refine lv_icmp_ge (tgt := 33) hx hb dX5_hasAt_7 (by decide) (fun hq => ?_) (fun hq => ?_)
  · have hf := gift hq hf
    refine lv_iconst (v := 1) hx hb dX5_hasAt_33 kc_i_1 ?_
    exact gw_zret C I hr dX5_hasAt_34 hf
  · have hf := giff hq hf
    refine gw_aload_n hx hb dX5_hasAt_10 rfl (lv_at hl 0 rfl) ?_
    refine lv_iload_n hx hb dX5_hasAt_11 rfl (lv_at hl 1 rfl) ?_
    refine lv_iload_n hx hb dX5_hasAt_12 rfl (lv_at hl 3 rfl) ?_
    refine lv_iadd hx hb dX5_hasAt_13 ?_
    refine gw_callV (rest := []) C I hl.1 gcls_4 (m_X5_byteAt G l x0 (x1 + x3)) gl_RX5_25 gn_X5_byteAt ⟨Nat.le_of_ble_eq_true rfl, Nat.le_of_ble_eq_true rfl⟩ rfl (gc4 (Nat.le_of_ble_eq_true rfl)) rfl dX5_hasAt_14 hf (fun v2 σ H locs cells slots I hf => ?_)
    refine W.eq (g2 := F0 m 17 ls [.int v2]) rfl ?_
    refine gw_aload_n hx hb dX5_hasAt_17 rfl (lv_at hl 2 rfl) ?_
    refine lv_iload_n hx hb dX5_hasAt_18 rfl (lv_at hl 3 rfl) ?_
    refine gw_callT (rest := [.int v2]) C I hl.1 (m_J0_charAt_5068e G l x2 x3) gl_RX5_38 gn_J0_charAt_5068e ⟨Nat.le_of_ble_eq_true rfl, Nat.le_of_ble_eq_true rfl⟩ rfl (gc4 (Nat.le_of_ble_eq_true rfl)) rfl dX5_hasAt_19 hf (fun v3 σ H locs cells slots I hf => ?_)
    refine W.eq (g2 := F0 m 22 ls [.int v3, .int v2]) rfl ?_
    refine lv_icmp_eq (tgt := 27) hx hb dX5_hasAt_22 (by decide) (fun hq => ?_) (fun hq => ?_)
    · have hf := gift hq hf
      refine lv_iinc (v := x3 + 1) (lv' := [(3, .int (x3 + 1)), (0, va_rf x0), (1, .int x1), (2, va_rf (some (gK G x2)))]) hx hb dX5_hasAt_27 hl (k := 3) rfl rfl (by decide) rfl (fun ls hl => ?_)
      refine lv_goto (tgt := 2) hx hb dX5_hasAt_30 (by decide) ?_
      exact hrec2 x0 x1 x2 (x3 + 1) _ _ _ _ _ _ hf I (lv_sub hl [1, 2, 3, 0] rfl)
    · have hf := giff hq hf
      refine lv_iconst (v := 0) hx hb dX5_hasAt_25 kc_i_0 ?_
      exact gw_zret C I hr dX5_hasAt_26 hf
theorem w_X5_hasAt_L2 (C : gC G p s m args meth c cX5_hasAt 4 RX5) (hr : meth.sig.returnType = (some .boolean))  : ∀ (n : Nat) (x0 : Option Nat) (x1 : Int32) (x2 : Nat) (x3 : Int32), gJ G p l e 4 85 mc ms s m args below meth c gri y 4 2 [(0, va_rf x0), (1, .int x1), (2, va_rf (some (gK G x2))), (3, .int x3)] [] (f_X5_hasAt_L2  n x0 x1 x2 x3) := by
  intro n
  induction n with
  | zero => intro x0 x1 x2 x3 σ H locs cells slots ls hf; exact (gno_some hf).elim
  | succ n ih => intro x0 x1 x2 x3; exact w_X5_hasAt_2 C hr  ih x0 x1 x2 x3
set_option maxHeartbeats 4000000 in
set_option maxRecDepth 100000 in
theorem w_X5_hasAt_0 (C : gC G p s m args meth c cX5_hasAt 4 RX5) (hr : meth.sig.returnType = (some .boolean))  (a0 : Option Nat) (a1 : Int32) (a2 : Nat) : gJ G p l e 4 85 mc ms s m args below meth c gri y 4 0 [(0, va_rf a0), (1, .int a1), (2, va_rf (some (gK G a2)))] [] (f_X5_hasAt  a0 a1 a2) := by
  have hx := C.1
  have hb := C.2.1
  intro σ H locs cells slots ls hf I hl
  unfold f_X5_hasAt at hf
  refine lv_iconst (v := 0) hx hb dX5_hasAt_0 kc_i_0 ?_
  refine lv_istore_n (lv' := [(3, .int 0), (0, va_rf a0), (1, .int a1), (2, va_rf (some (gK G a2)))]) hx hb dX5_hasAt_1 rfl hl (by decide) rfl (fun ls hl => ?_)
  exact w_X5_hasAt_L2 C hr  _ a0 a1 a2 0 _ _ _ _ _ _ hf I (lv_sub hl [1, 2, 3, 0] rfl)
end S_X5_hasAt
theorem m_X5_hasAt (G : gX) (l : Launch) (a0 : Option Nat) (a1 : Int32) (a2 : Nat) : gMet G l yX5_hasAt cX5_hasAt 4 (some .boolean) 4 85 [va_rf a0, .int a1, va_rf (some (gK G a2))] gri (f_X5_hasAt a0 a1 a2) := by
  refine gMet_of (by decide) ?_
  intro σ y p e s m below meth c mc ms hf C hr hnm I
  obtain ⟨ls, e1, hl⟩ := gentry m [va_rf a0, .int a1, va_rf (some (gK G a2))] 4 [(0, va_rf a0), (1, .int a1), (2, va_rf (some (gK G a2)))] (by simp [lg_sl, grc, gcat_i, gcat_l]) (by simp [lv_args, grc, gcat_i, gcat_l])
  rw [e1]
  exact w_X5_hasAt_0 C hr a0 a1 a2 _ _ _ _ _ _ hf I hl
def f_X7_readScheme_79  (x0 : Option Nat) (s0 : Int32) : gM Int32 := if s0 = 0 then (gp 2) else (gb (rR 6 0 x0) fun v1 => gb (rI 6 1 x0) fun v2 => gb (nn 4 v1) fun _ => gb (f_X5_hasAt v1 v2 5) fun v3 => if v3 = 0 then (gp 1) else (gp 2))
def f_X7_readScheme_78  (x0 : Option Nat) : gM Int32 := f_X7_readScheme_79  x0 0
def f_X7_readScheme  (a0 : Option Nat) (a1 : Option Nat) (a2 : Option Nat) : gM Int32 := gb (nn 6 a0) fun _ => gb (f_X7_schemeEnd a0) fun v1 => if v1 = (-1) then (if a1 = none then (gp (-11)) else (gb (wI 6 1 a0 0) fun _ => gb (rI 5 0 a1) fun v4 => gb (nn 5 a2) fun _ => gb (f_X6_setScheme a2 v4) fun _ => gp 1)) else (gb (nn 6 a0) fun _ => gb (f_X7_schemeUpTo a0 v1) fun v2 => if v2 = (-1) then (gp (-12)) else (gb (wI 6 1 a0 (v1 + 1)) fun _ => gb (nn 5 a2) fun _ => gb (f_X6_setScheme a2 v2) fun _ => if a1 = none then (f_X7_readScheme_78  a0) else (gb (rI 5 0 a1) fun v3 => if v3 = v2 then (f_X7_readScheme_79  a0 1) else (f_X7_readScheme_78  a0))))
section S_X7_readScheme
variable {G : gX} {p : Program} {l : Launch} {e : Env} {s : State} {m : MethodId} {args : Array Value} {below : List Frame} {meth : Method} {c : Code} {mc ms : Nat} {y : Int32 × gS}
set_option maxHeartbeats 4000000 in
set_option maxRecDepth 100000 in
theorem w_X7_readScheme_79 (C : gC G p s m args meth c cX7_readScheme 6 RX7) (hr : meth.sig.returnType = (some .int))  (x0 : Option Nat) (s0 : Int32) : gJ G p l e 6 130 mc ms s m args below meth c gri y 6 79 [(0, va_rf x0)] [.int s0] (f_X7_readScheme_79  x0 s0) := by
  have hx := C.1
  have hb := C.2.1
  intro σ H locs cells slots ls hf I hl
  unfold f_X7_readScheme_79 at hf
  refine lv_istore (lv' := [(5, .int s0), (0, va_rf x0)]) hx hb dX7_readScheme_79 hl (by decide) rfl (fun ls hl => ?_)
  refine lv_iload hx hb dX7_readScheme_81 (lv_at hl 0 rfl) ?_
  refine lv_if_eq (tgt := 106) hx hb dX7_readScheme_83 (by decide) (fun hq => ?_) (fun hq => ?_)
  · have hf := gift hq hf
    refine lv_iconst (v := 2) hx hb dX7_readScheme_106 kc_i_2 ?_
    exact gw_iret C I hr dX7_readScheme_107 hf
  · have hf := giff hq hf
    refine gw_aload_n hx hb dX7_readScheme_86 rfl (lv_at hl 1 rfl) ?_
    refine gw_getr (k := 0) C I gcls_6 (by decide) rfl kw_27 dX7_readScheme_87 hf (fun v1 hf => ?_)
    refine gw_aload_n hx hb dX7_readScheme_90 rfl (lv_at hl 1 rfl) ?_
    refine gw_geti (k := 1) C I gcls_6 (by decide) rfl kw_28 dX7_readScheme_91 hf (fun v2 hf => ?_)
    refine gw_ldcs C 5 (tx := "//") rfl dX7_readScheme_94 ?_
    refine gw_callV (rest := []) C I hl.1 gcls_4 (m_X5_hasAt G l v1 v2 5) gl_RX7_106 gn_X5_hasAt ⟨Nat.le_of_ble_eq_true rfl, Nat.le_of_ble_eq_true rfl⟩ rfl (gc4 (Nat.le_of_ble_eq_true rfl)) rfl dX7_readScheme_96 hf (fun v3 σ H locs cells slots I hf => ?_)
    refine W.eq (g2 := F0 m 99 ls [.int v3]) rfl ?_
    refine lv_if_ne (tgt := 106) hx hb dX7_readScheme_99 (by decide) (fun hq => ?_) (fun hq => ?_)
    · have hf := giff hq hf
      refine lv_iconst (v := 2) hx hb dX7_readScheme_106 kc_i_2 ?_
      exact gw_iret C I hr dX7_readScheme_107 hf
    · have hf := gift hq hf
      refine lv_iconst (v := 1) hx hb dX7_readScheme_102 kc_i_1 ?_
      refine lv_goto (tgt := 107) hx hb dX7_readScheme_103 (by decide) ?_
      exact gw_iret C I hr dX7_readScheme_107 hf
set_option maxHeartbeats 4000000 in
set_option maxRecDepth 100000 in
theorem w_X7_readScheme_78 (C : gC G p s m args meth c cX7_readScheme 6 RX7) (hr : meth.sig.returnType = (some .int))  (x0 : Option Nat) : gJ G p l e 6 130 mc ms s m args below meth c gri y 6 78 [(0, va_rf x0)] [] (f_X7_readScheme_78  x0) := by
  have hx := C.1
  have hb := C.2.1
  intro σ H locs cells slots ls hf I hl
  unfold f_X7_readScheme_78 at hf
  refine lv_iconst (v := 0) hx hb dX7_readScheme_78 kc_i_0 ?_
  exact w_X7_readScheme_79 C hr  x0 0 _ _ _ _ _ _ hf I (lv_sub hl [0] rfl)
set_option maxHeartbeats 4000000 in
set_option maxRecDepth 100000 in
theorem w_X7_readScheme_0 (C : gC G p s m args meth c cX7_readScheme 6 RX7) (hr : meth.sig.returnType = (some .int))  (a0 : Option Nat) (a1 : Option Nat) (a2 : Option Nat) : gJ G p l e 6 130 mc ms s m args below meth c gri y 6 0 [(0, va_rf a0), (1, va_rf a1), (2, va_rf a2)] [] (f_X7_readScheme  a0 a1 a2) := by
  have hx := C.1
  have hb := C.2.1
  intro σ H locs cells slots ls hf I hl
  unfold f_X7_readScheme at hf
  refine gw_aload_n hx hb dX7_readScheme_0 rfl (lv_at hl 0 rfl) ?_
  refine gw_callV (rest := []) C I hl.1 gcls_6 (m_X7_schemeEnd G l a0) gl_RX7_91 gn_X7_schemeEnd ⟨Nat.le_of_ble_eq_true rfl, Nat.le_of_ble_eq_true rfl⟩ rfl (gc4 (Nat.le_of_ble_eq_true rfl)) rfl dX7_readScheme_1 hf (fun v1 σ H locs cells slots I hf => ?_)
  refine W.eq (g2 := F0 m 4 ls [.int v1]) rfl ?_
  refine lv_istore_n (lv' := [(3, .int v1), (0, va_rf a0), (1, va_rf a1), (2, va_rf a2)]) hx hb dX7_readScheme_4 rfl hl (by decide) (by cases a2 <;> rfl) (fun ls hl => ?_)
  refine lv_iload_n hx hb dX7_readScheme_5 rfl (lv_at hl 0 rfl) ?_
  refine lv_iconst (v := (-1)) hx hb dX7_readScheme_6 kc_i_m1 ?_
  refine lv_icmp_ne (tgt := 32) hx hb dX7_readScheme_7 (by decide) (fun hq => ?_) (fun hq => ?_)
  · have hf := giff hq hf
    refine gw_aload_n hx hb dX7_readScheme_32 rfl (lv_at hl 1 rfl) ?_
    refine lv_iload_n hx hb dX7_readScheme_33 rfl (lv_at hl 0 rfl) ?_
    refine gw_callV (rest := []) C I hl.1 gcls_6 (m_X7_schemeUpTo G l a0 v1) gl_RX7_101 gn_X7_schemeUpTo ⟨Nat.le_of_ble_eq_true rfl, Nat.le_of_ble_eq_true rfl⟩ rfl (gc4 (Nat.le_of_ble_eq_true rfl)) rfl dX7_readScheme_34 hf (fun v2 σ H locs cells slots I hf => ?_)
    refine W.eq (g2 := F0 m 37 ls [.int v2]) rfl ?_
    refine lv_istore (lv' := [(4, .int v2), (3, .int v1), (0, va_rf a0), (1, va_rf a1), (2, va_rf a2)]) hx hb dX7_readScheme_37 hl (by decide) rfl (fun ls hl => ?_)
    refine lv_iload hx hb dX7_readScheme_39 (lv_at hl 0 rfl) ?_
    refine lv_iconst (v := (-1)) hx hb dX7_readScheme_41 kc_i_m1 ?_
    refine lv_icmp_ne (tgt := 48) hx hb dX7_readScheme_42 (by decide) (fun hq => ?_) (fun hq => ?_)
    · have hf := giff hq hf
      refine gw_aload_n hx hb dX7_readScheme_48 rfl (lv_at hl 2 rfl) ?_
      refine lv_iload_n hx hb dX7_readScheme_49 rfl (lv_at hl 1 rfl) ?_
      refine lv_iconst (v := 1) hx hb dX7_readScheme_50 kc_i_1 ?_
      refine lv_iadd hx hb dX7_readScheme_51 ?_
      refine gw_puti (k := 1) C I gcls_6 (by decide) rfl kw_28 (Or.inl rfl) (by decide +kernel) dX7_readScheme_52 hf (fun σ H locs I hf => ?_)
      refine gw_aload_n hx hb dX7_readScheme_55 rfl (lv_at hl 4 rfl) ?_
      refine lv_iload hx hb dX7_readScheme_56 (lv_at hl 0 rfl) ?_
      refine gw_callV (rest := []) C I hl.1 gcls_5 (m_X6_setScheme G l a2 v2) gl_RX7_98 gn_X6_setScheme ⟨Nat.le_of_ble_eq_true rfl, Nat.le_of_ble_eq_true rfl⟩ rfl (gc4 (Nat.le_of_ble_eq_true rfl)) rfl dX7_readScheme_58 hf (fun _ σ H locs cells slots I hf => ?_)
      refine W.eq (g2 := F0 m 61 ls []) rfl ?_
      refine gw_aload_n hx hb dX7_readScheme_61 rfl (lv_at hl 3 rfl) ?_
      refine gw_ifnull (tgt := 78) hx hb dX7_readScheme_62 (by decide) (fun hq => ?_) (fun hq => ?_)
      · have hf := gift hq hf
        exact w_X7_readScheme_78 C hr  a0 _ _ _ _ _ _ hf I (lv_sub hl [2] rfl)
      · have hf := giff hq hf
        refine gw_aload_n hx hb dX7_readScheme_65 rfl (lv_at hl 3 rfl) ?_
        refine gw_geti (k := 0) C I gcls_5 (by decide) rfl kw_113 dX7_readScheme_66 hf (fun v3 hf => ?_)
        refine lv_iload hx hb dX7_readScheme_69 (lv_at hl 0 rfl) ?_
        refine lv_icmp_ne (tgt := 78) hx hb dX7_readScheme_71 (by decide) (fun hq => ?_) (fun hq => ?_)
        · have hf := giff hq hf
          exact w_X7_readScheme_78 C hr  a0 _ _ _ _ _ _ hf I (lv_sub hl [2] rfl)
        · have hf := gift hq hf
          refine lv_iconst (v := 1) hx hb dX7_readScheme_74 kc_i_1 ?_
          refine lv_goto (tgt := 79) hx hb dX7_readScheme_75 (by decide) ?_
          exact w_X7_readScheme_79 C hr  a0 1 _ _ _ _ _ _ hf I (lv_sub hl [2] rfl)
    · have hf := gift hq hf
      refine lv_bipush (v := (-12)) hx hb dX7_readScheme_45 kc_b_m12 ?_
      exact gw_iret C I hr dX7_readScheme_47 hf
  · have hf := gift hq hf
    refine gw_aload_n hx hb dX7_readScheme_10 rfl (lv_at hl 2 rfl) ?_
    refine gw_ifnonnull (tgt := 17) hx hb dX7_readScheme_11 (by decide) (fun hq => ?_) (fun hq => ?_)
    · have hf := giff hq hf
      refine gw_aload_n hx hb dX7_readScheme_17 rfl (lv_at hl 1 rfl) ?_
      refine lv_iconst (v := 0) hx hb dX7_readScheme_18 kc_i_0 ?_
      refine gw_puti (k := 1) C I gcls_6 (by decide) rfl kw_28 (Or.inl rfl) (by decide +kernel) dX7_readScheme_19 hf (fun σ H locs I hf => ?_)
      refine gw_aload_n hx hb dX7_readScheme_22 rfl (lv_at hl 3 rfl) ?_
      refine gw_aload_n hx hb dX7_readScheme_23 rfl (lv_at hl 2 rfl) ?_
      refine gw_geti (k := 0) C I gcls_5 (by decide) rfl kw_113 dX7_readScheme_24 hf (fun v4 hf => ?_)
      refine gw_callV (rest := []) C I hl.1 gcls_5 (m_X6_setScheme G l a2 v4) gl_RX7_98 gn_X6_setScheme ⟨Nat.le_of_ble_eq_true rfl, Nat.le_of_ble_eq_true rfl⟩ rfl (gc4 (Nat.le_of_ble_eq_true rfl)) rfl dX7_readScheme_27 hf (fun _ σ H locs cells slots I hf => ?_)
      refine W.eq (g2 := F0 m 30 ls []) rfl ?_
      refine lv_iconst (v := 1) hx hb dX7_readScheme_30 kc_i_1 ?_
      exact gw_iret C I hr dX7_readScheme_31 hf
    · have hf := gift hq hf
      refine lv_bipush (v := (-11)) hx hb dX7_readScheme_14 kc_b_m11 ?_
      exact gw_iret C I hr dX7_readScheme_16 hf
end S_X7_readScheme
theorem m_X7_readScheme (G : gX) (l : Launch) (a0 : Option Nat) (a1 : Option Nat) (a2 : Option Nat) : gMet G l yX7_readScheme cX7_readScheme 6 (some .int) 6 130 [va_rf a0, va_rf a1, va_rf a2] gri (f_X7_readScheme a0 a1 a2) := by
  refine gMet_of (by decide) ?_
  intro σ y p e s m below meth c mc ms hf C hr hnm I
  obtain ⟨ls, e1, hl⟩ := gentry m [va_rf a0, va_rf a1, va_rf a2] 6 [(0, va_rf a0), (1, va_rf a1), (2, va_rf a2)] (by simp [lg_sl, grc, gcat_i, gcat_l]) (by simp [lv_args, grc, gcat_i, gcat_l])
  rw [e1]
  exact w_X7_readScheme_0 C hr a0 a1 a2 _ _ _ _ _ _ hf I hl
def f_X1_isSlash  (a0 : Int32) : gM Int32 := if a0 = 47 then (gz 1) else (if a0 = 92 then (gz 1) else (gz 0))
section S_X1_isSlash
variable {G : gX} {p : Program} {l : Launch} {e : Env} {s : State} {m : MethodId} {args : Array Value} {below : List Frame} {meth : Method} {c : Code} {mc ms : Nat} {y : Int32 × gS}
set_option maxHeartbeats 4000000 in
set_option maxRecDepth 100000 in
theorem w_X1_isSlash_0 (C : gC G p s m args meth c cX1_isSlash 1 RX1) (hr : meth.sig.returnType = (some .boolean))  (a0 : Int32) : gJ G p l e 0 0 mc ms s m args below meth c gri y 1 0 [(0, .int a0)] [] (f_X1_isSlash  a0) := by
  have hx := C.1
  have hb := C.2.1
  intro σ H locs cells slots ls hf I hl
  unfold f_X1_isSlash at hf
  refine lv_iload_n hx hb dX1_isSlash_0 rfl (lv_at hl 0 rfl) ?_
  refine lv_bipush (v := 47) hx hb dX1_isSlash_1 kc_b_47 ?_
  refine lv_icmp_eq (tgt := 12) hx hb dX1_isSlash_3 (by decide) (fun hq => ?_) (fun hq => ?_)
  · have hf := gift hq hf
    refine lv_iconst (v := 1) hx hb dX1_isSlash_12 kc_i_1 ?_
    refine lv_goto (tgt := 17) hx hb dX1_isSlash_13 (by decide) ?_
    exact gw_zret C I hr dX1_isSlash_17 hf
  · have hf := giff hq hf
    refine lv_iload_n hx hb dX1_isSlash_6 rfl (lv_at hl 0 rfl) ?_
    refine lv_bipush (v := 92) hx hb dX1_isSlash_7 kc_b_92 ?_
    refine lv_icmp_ne (tgt := 16) hx hb dX1_isSlash_9 (by decide) (fun hq => ?_) (fun hq => ?_)
    · have hf := giff hq hf
      refine lv_iconst (v := 0) hx hb dX1_isSlash_16 kc_i_0 ?_
      exact gw_zret C I hr dX1_isSlash_17 hf
    · have hf := gift hq hf
      refine lv_iconst (v := 1) hx hb dX1_isSlash_12 kc_i_1 ?_
      refine lv_goto (tgt := 17) hx hb dX1_isSlash_13 (by decide) ?_
      exact gw_zret C I hr dX1_isSlash_17 hf
end S_X1_isSlash
theorem m_X1_isSlash (G : gX) (l : Launch) (a0 : Int32) : gMet G l yX1_isSlash cX1_isSlash 1 (some .boolean) 0 0 [.int a0] gri (f_X1_isSlash a0) := by
  refine gMet_of (by decide) ?_
  intro σ y p e s m below meth c mc ms hf C hr hnm I
  obtain ⟨ls, e1, hl⟩ := gentry m [.int a0] 1 [(0, .int a0)] (by simp [lg_sl, grc, gcat_i, gcat_l]) (by simp [lv_args, grc, gcat_i, gcat_l])
  rw [e1]
  exact w_X1_isSlash_0 C hr a0 _ _ _ _ _ _ hf I hl
def f_X5_take_12 (rec12 : Option Nat → Option Nat → Int32 → Int32 → gM Unit) (x0 : Option Nat) (x1 : Option Nat) (x2 : Int32) (x3 : Int32) : gM Unit := if x2 ≤ x3 then (gp ()) else (gb (nn 4 x1) fun _ => gb (f_X5_byteAt x1 x3) fun v1 => gb (nn 4 x0) fun _ => gb (f_X5_add x0 v1) fun _ => rec12 x0 x1 x2 (x3 + 1))
def f_X5_take_L12  : Nat → Option Nat → Option Nat → Int32 → Int32 → gM Unit
  | 0, _, _, _, _ => gno
  | n + 1, x0, x1, x2, x3 => f_X5_take_12  (f_X5_take_L12  n) x0 x1 x2 x3
def f_X5_take  (a0 : Option Nat) (a1 : Option Nat) : gM Unit := gb (rI 4 1 a1) fun v1 => gb (wI 4 1 a0 0) fun _ => f_X5_take_L12  gF a0 a1 v1 0
section S_X5_take
variable {G : gX} {p : Program} {l : Launch} {e : Env} {s : State} {m : MethodId} {args : Array Value} {below : List Frame} {meth : Method} {c : Code} {mc ms : Nat} {y : Unit × gS}
set_option maxHeartbeats 4000000 in
set_option maxRecDepth 100000 in
theorem w_X5_take_12 (C : gC G p s m args meth c cX5_take 4 RX5) (hr : meth.sig.returnType = none) {rec12 : Option Nat → Option Nat → Int32 → Int32 → gM Unit} (hrec12 : ∀ (x0 : Option Nat) (x1 : Option Nat) (x2 : Int32) (x3 : Int32), gJ G p l e 3 83 mc ms s m args below meth c grv y 4 12 [(0, va_rf x0), (1, va_rf x1), (2, .int x2), (3, .int x3)] [] (rec12 x0 x1 x2 x3)) (x0 : Option Nat) (x1 : Option Nat) (x2 : Int32) (x3 : Int32) : gJ G p l e 3 83 mc ms s m args below meth c grv y 4 12 [(0, va_rf x0), (1, va_rf x1), (2, .int x2), (3, .int x3)] [] (f_X5_take_12 rec12 x0 x1 x2 x3) := by
  have hx := C.1
  have hb := C.2.1
  intro σ H locs cells slots ls hf I hl
  unfold f_X5_take_12 at hf
  refine lv_iload_n hx hb dX5_take_12 rfl (lv_at hl 3 rfl) ?_
  refine lv_iload_n hx hb dX5_take_13 rfl (lv_at hl 2 rfl) ?_
  refine lv_icmp_ge (tgt := 32) hx hb dX5_take_14 (by decide) (fun hq => ?_) (fun hq => ?_)
  · have hf := gift hq hf
    exact gw_vret C I hr dX5_take_32 hf
  · have hf := giff hq hf
    refine gw_aload_n hx hb dX5_take_17 rfl (lv_at hl 0 rfl) ?_
    refine gw_aload_n hx hb dX5_take_18 rfl (lv_at hl 1 rfl) ?_
    refine lv_iload_n hx hb dX5_take_19 rfl (lv_at hl 3 rfl) ?_
    refine gw_callV (rest := [va_rf x0]) C I hl.1 gcls_4 (m_X5_byteAt G l x1 x3) gl_RX5_25 gn_X5_byteAt ⟨Nat.le_of_ble_eq_true rfl, Nat.le_of_ble_eq_true rfl⟩ rfl (gc4 (Nat.le_of_ble_eq_true rfl)) rfl dX5_take_20 hf (fun v1 σ H locs cells slots I hf => ?_)
    refine W.eq (g2 := F0 m 23 ls [.int v1, va_rf x0]) rfl ?_
    refine gw_callV (rest := []) C I hl.1 gcls_4 (m_X5_add G l x0 v1) gl_RX5_29 gn_X5_add ⟨Nat.le_of_ble_eq_true rfl, Nat.le_of_ble_eq_true rfl⟩ rfl (gc4 (Nat.le_of_ble_eq_true rfl)) rfl dX5_take_23 hf (fun _ σ H locs cells slots I hf => ?_)
    refine W.eq (g2 := F0 m 26 ls []) rfl ?_
    refine lv_iinc (v := x3 + 1) (lv' := [(3, .int (x3 + 1)), (0, va_rf x0), (1, va_rf x1), (2, .int x2)]) hx hb dX5_take_26 hl (k := 3) rfl rfl (by decide) rfl (fun ls hl => ?_)
    refine lv_goto (tgt := 12) hx hb dX5_take_29 (by decide) ?_
    exact hrec12 x0 x1 x2 (x3 + 1) _ _ _ _ _ _ hf I (lv_sub hl [1, 2, 3, 0] rfl)
theorem w_X5_take_L12 (C : gC G p s m args meth c cX5_take 4 RX5) (hr : meth.sig.returnType = none)  : ∀ (n : Nat) (x0 : Option Nat) (x1 : Option Nat) (x2 : Int32) (x3 : Int32), gJ G p l e 3 83 mc ms s m args below meth c grv y 4 12 [(0, va_rf x0), (1, va_rf x1), (2, .int x2), (3, .int x3)] [] (f_X5_take_L12  n x0 x1 x2 x3) := by
  intro n
  induction n with
  | zero => intro x0 x1 x2 x3 σ H locs cells slots ls hf; exact (gno_some hf).elim
  | succ n ih => intro x0 x1 x2 x3; exact w_X5_take_12 C hr  ih x0 x1 x2 x3
set_option maxHeartbeats 4000000 in
set_option maxRecDepth 100000 in
theorem w_X5_take_0 (C : gC G p s m args meth c cX5_take 4 RX5) (hr : meth.sig.returnType = none)  (a0 : Option Nat) (a1 : Option Nat) : gJ G p l e 3 83 mc ms s m args below meth c grv y 4 0 [(0, va_rf a0), (1, va_rf a1)] [] (f_X5_take  a0 a1) := by
  have hx := C.1
  have hb := C.2.1
  intro σ H locs cells slots ls hf I hl
  unfold f_X5_take at hf
  refine gw_aload_n hx hb dX5_take_0 rfl (lv_at hl 1 rfl) ?_
  refine gw_geti (k := 1) C I gcls_4 (by decide) rfl kw_5 dX5_take_1 hf (fun v1 hf => ?_)
  refine lv_istore_n (lv' := [(2, .int v1), (0, va_rf a0), (1, va_rf a1)]) hx hb dX5_take_4 rfl hl (by decide) (by cases a1 <;> rfl) (fun ls hl => ?_)
  refine gw_aload_n hx hb dX5_take_5 rfl (lv_at hl 1 rfl) ?_
  refine lv_iconst (v := 0) hx hb dX5_take_6 kc_i_0 ?_
  refine gw_puti (k := 1) C I gcls_4 (by decide) rfl kw_5 (Or.inl rfl) (by decide +kernel) dX5_take_7 hf (fun σ H locs I hf => ?_)
  refine lv_iconst (v := 0) hx hb dX5_take_10 kc_i_0 ?_
  refine lv_istore_n (lv' := [(3, .int 0), (2, .int v1), (0, va_rf a0), (1, va_rf a1)]) hx hb dX5_take_11 rfl hl (by decide) rfl (fun ls hl => ?_)
  exact w_X5_take_L12 C hr  _ a0 a1 v1 0 _ _ _ _ _ _ hf I (lv_sub hl [2, 3, 1, 0] rfl)
end S_X5_take
theorem m_X5_take (G : gX) (l : Launch) (a0 : Option Nat) (a1 : Option Nat) : gMet G l yX5_take cX5_take 4 none 3 83 [va_rf a0, va_rf a1] grv (f_X5_take a0 a1) := by
  refine gMet_of (by decide) ?_
  intro σ y p e s m below meth c mc ms hf C hr hnm I
  obtain ⟨ls, e1, hl⟩ := gentry m [va_rf a0, va_rf a1] 4 [(0, va_rf a0), (1, va_rf a1)] (by simp [lg_sl, grc, gcat_i, gcat_l]) (by simp [lv_args, grc, gcat_i, gcat_l])
  rw [e1]
  exact w_X5_take_0 C hr a0 a1 _ _ _ _ _ _ hf I hl
def f_X0_setTo_72  (s0 : Option Nat) (s1 : Int32) (s2 : Int32) : gM Unit := gb (sI 1 s0 s1 s2) fun _ => gp ()
def f_X0_setTo_54  (x0 : Option Nat) (x1 : Int32) (x5 : Int32) (s0 : Option Nat) (s1 : Int32) (s2 : Int32) : gM Unit := gb (sI 1 s0 s1 s2) fun _ => gb (rR 0 1 x0) fun v1 => if x1 = 6 then (f_X0_setTo_72  v1 3 x5) else (f_X0_setTo_72  v1 3 0)
def f_X0_setTo_36  (x0 : Option Nat) (x1 : Int32) (x4 : Int32) (x5 : Int32) (s0 : Option Nat) (s1 : Int32) (s2 : Int32) : gM Unit := gb (sI 1 s0 s1 s2) fun _ => gb (rR 0 1 x0) fun v1 => if x1 = 6 then (f_X0_setTo_54  x0 x1 x5 v1 2 x4) else (f_X0_setTo_54  x0 x1 x5 v1 2 0)
def f_X0_setTo_19  (x0 : Option Nat) (x1 : Int32) (x3 : Int32) (x4 : Int32) (x5 : Int32) (s0 : Option Nat) (s1 : Int32) (s2 : Int32) : gM Unit := gb (sI 1 s0 s1 s2) fun _ => gb (rR 0 1 x0) fun v1 => if x1 = 6 then (f_X0_setTo_36  x0 x1 x4 x5 v1 1 x3) else (f_X0_setTo_36  x0 x1 x4 x5 v1 1 0)
def f_X0_setTo  (a0 : Option Nat) (a1 : Int32) (a2 : Int32) (a3 : Int32) (a4 : Int32) (a5 : Int32) : gM Unit := gb (wI 0 0 a0 a1) fun _ => gb (rR 0 1 a0) fun v1 => if a1 = 0 then (f_X0_setTo_19  a0 a1 a3 a4 a5 v1 0 0) else (f_X0_setTo_19  a0 a1 a3 a4 a5 v1 0 a2)
section S_X0_setTo
variable {G : gX} {p : Program} {l : Launch} {e : Env} {s : State} {m : MethodId} {args : Array Value} {below : List Frame} {meth : Method} {c : Code} {mc ms : Nat} {y : Unit × gS}
set_option maxHeartbeats 4000000 in
set_option maxRecDepth 100000 in
theorem w_X0_setTo_72 (C : gC G p s m args meth c cX0_setTo 6 RX0) (hr : meth.sig.returnType = none)  (s0 : Option Nat) (s1 : Int32) (s2 : Int32) : gJ G p l e 0 0 mc ms s m args below meth c grv y 6 72 [] [.int s2, .int s1, va_rf s0] (f_X0_setTo_72  s0 s1 s2) := by
  have hx := C.1
  have hb := C.2.1
  intro σ H locs cells slots ls hf I hl
  unfold f_X0_setTo_72 at hf
  refine gw_iast C I dX0_setTo_72 hf (fun σ H locs I hf => ?_)
  exact gw_vret C I hr dX0_setTo_73 hf
set_option maxHeartbeats 4000000 in
set_option maxRecDepth 100000 in
theorem w_X0_setTo_54 (C : gC G p s m args meth c cX0_setTo 6 RX0) (hr : meth.sig.returnType = none)  (x0 : Option Nat) (x1 : Int32) (x5 : Int32) (s0 : Option Nat) (s1 : Int32) (s2 : Int32) : gJ G p l e 0 0 mc ms s m args below meth c grv y 6 54 [(0, va_rf x0), (1, .int x1), (5, .int x5)] [.int s2, .int s1, va_rf s0] (f_X0_setTo_54  x0 x1 x5 s0 s1 s2) := by
  have hx := C.1
  have hb := C.2.1
  intro σ H locs cells slots ls hf I hl
  unfold f_X0_setTo_54 at hf
  refine gw_iast C I dX0_setTo_54 hf (fun σ H locs I hf => ?_)
  refine gw_aload_n hx hb dX0_setTo_55 rfl (lv_at hl 0 rfl) ?_
  refine gw_getr (k := 1) C I gcls_0 (by decide) rfl kw_8 dX0_setTo_56 hf (fun v1 hf => ?_)
  refine lv_iconst (v := 3) hx hb dX0_setTo_59 kc_i_3 ?_
  refine lv_iload_n hx hb dX0_setTo_60 rfl (lv_at hl 1 rfl) ?_
  refine lv_bipush (v := 6) hx hb dX0_setTo_61 kc_b_6 ?_
  refine lv_icmp_ne (tgt := 71) hx hb dX0_setTo_63 (by decide) (fun hq => ?_) (fun hq => ?_)
  · have hf := giff hq hf
    refine lv_iconst (v := 0) hx hb dX0_setTo_71 kc_i_0 ?_
    exact w_X0_setTo_72 C hr  v1 3 0 _ _ _ _ _ _ hf I (lv_sub hl [] rfl)
  · have hf := gift hq hf
    refine lv_iload hx hb dX0_setTo_66 (lv_at hl 2 rfl) ?_
    refine lv_goto (tgt := 72) hx hb dX0_setTo_68 (by decide) ?_
    exact w_X0_setTo_72 C hr  v1 3 x5 _ _ _ _ _ _ hf I (lv_sub hl [] rfl)
set_option maxHeartbeats 4000000 in
set_option maxRecDepth 100000 in
theorem w_X0_setTo_36 (C : gC G p s m args meth c cX0_setTo 6 RX0) (hr : meth.sig.returnType = none)  (x0 : Option Nat) (x1 : Int32) (x4 : Int32) (x5 : Int32) (s0 : Option Nat) (s1 : Int32) (s2 : Int32) : gJ G p l e 0 0 mc ms s m args below meth c grv y 6 36 [(0, va_rf x0), (1, .int x1), (4, .int x4), (5, .int x5)] [.int s2, .int s1, va_rf s0] (f_X0_setTo_36  x0 x1 x4 x5 s0 s1 s2) := by
  have hx := C.1
  have hb := C.2.1
  intro σ H locs cells slots ls hf I hl
  unfold f_X0_setTo_36 at hf
  refine gw_iast C I dX0_setTo_36 hf (fun σ H locs I hf => ?_)
  refine gw_aload_n hx hb dX0_setTo_37 rfl (lv_at hl 0 rfl) ?_
  refine gw_getr (k := 1) C I gcls_0 (by decide) rfl kw_8 dX0_setTo_38 hf (fun v1 hf => ?_)
  refine lv_iconst (v := 2) hx hb dX0_setTo_41 kc_i_2 ?_
  refine lv_iload_n hx hb dX0_setTo_42 rfl (lv_at hl 1 rfl) ?_
  refine lv_bipush (v := 6) hx hb dX0_setTo_43 kc_b_6 ?_
  refine lv_icmp_ne (tgt := 53) hx hb dX0_setTo_45 (by decide) (fun hq => ?_) (fun hq => ?_)
  · have hf := giff hq hf
    refine lv_iconst (v := 0) hx hb dX0_setTo_53 kc_i_0 ?_
    exact w_X0_setTo_54 C hr  x0 x1 x5 v1 2 0 _ _ _ _ _ _ hf I (lv_sub hl [0, 1, 3] rfl)
  · have hf := gift hq hf
    refine lv_iload hx hb dX0_setTo_48 (lv_at hl 2 rfl) ?_
    refine lv_goto (tgt := 54) hx hb dX0_setTo_50 (by decide) ?_
    exact w_X0_setTo_54 C hr  x0 x1 x5 v1 2 x4 _ _ _ _ _ _ hf I (lv_sub hl [0, 1, 3] rfl)
set_option maxHeartbeats 4000000 in
set_option maxRecDepth 100000 in
theorem w_X0_setTo_19 (C : gC G p s m args meth c cX0_setTo 6 RX0) (hr : meth.sig.returnType = none)  (x0 : Option Nat) (x1 : Int32) (x3 : Int32) (x4 : Int32) (x5 : Int32) (s0 : Option Nat) (s1 : Int32) (s2 : Int32) : gJ G p l e 0 0 mc ms s m args below meth c grv y 6 19 [(0, va_rf x0), (1, .int x1), (3, .int x3), (4, .int x4), (5, .int x5)] [.int s2, .int s1, va_rf s0] (f_X0_setTo_19  x0 x1 x3 x4 x5 s0 s1 s2) := by
  have hx := C.1
  have hb := C.2.1
  intro σ H locs cells slots ls hf I hl
  unfold f_X0_setTo_19 at hf
  refine gw_iast C I dX0_setTo_19 hf (fun σ H locs I hf => ?_)
  refine gw_aload_n hx hb dX0_setTo_20 rfl (lv_at hl 0 rfl) ?_
  refine gw_getr (k := 1) C I gcls_0 (by decide) rfl kw_8 dX0_setTo_21 hf (fun v1 hf => ?_)
  refine lv_iconst (v := 1) hx hb dX0_setTo_24 kc_i_1 ?_
  refine lv_iload_n hx hb dX0_setTo_25 rfl (lv_at hl 1 rfl) ?_
  refine lv_bipush (v := 6) hx hb dX0_setTo_26 kc_b_6 ?_
  refine lv_icmp_ne (tgt := 35) hx hb dX0_setTo_28 (by decide) (fun hq => ?_) (fun hq => ?_)
  · have hf := giff hq hf
    refine lv_iconst (v := 0) hx hb dX0_setTo_35 kc_i_0 ?_
    exact w_X0_setTo_36 C hr  x0 x1 x4 x5 v1 1 0 _ _ _ _ _ _ hf I (lv_sub hl [0, 1, 3, 4] rfl)
  · have hf := gift hq hf
    refine lv_iload_n hx hb dX0_setTo_31 rfl (lv_at hl 2 rfl) ?_
    refine lv_goto (tgt := 36) hx hb dX0_setTo_32 (by decide) ?_
    exact w_X0_setTo_36 C hr  x0 x1 x4 x5 v1 1 x3 _ _ _ _ _ _ hf I (lv_sub hl [0, 1, 3, 4] rfl)
set_option maxHeartbeats 4000000 in
set_option maxRecDepth 100000 in
theorem w_X0_setTo_0 (C : gC G p s m args meth c cX0_setTo 6 RX0) (hr : meth.sig.returnType = none)  (a0 : Option Nat) (a1 : Int32) (a2 : Int32) (a3 : Int32) (a4 : Int32) (a5 : Int32) : gJ G p l e 0 0 mc ms s m args below meth c grv y 6 0 [(0, va_rf a0), (1, .int a1), (2, .int a2), (3, .int a3), (4, .int a4), (5, .int a5)] [] (f_X0_setTo  a0 a1 a2 a3 a4 a5) := by
  have hx := C.1
  have hb := C.2.1
  intro σ H locs cells slots ls hf I hl
  unfold f_X0_setTo at hf
  refine gw_aload_n hx hb dX0_setTo_0 rfl (lv_at hl 0 rfl) ?_
  refine lv_iload_n hx hb dX0_setTo_1 rfl (lv_at hl 1 rfl) ?_
  refine gw_puti (k := 0) C I gcls_0 (by decide) rfl kw_7 (Or.inl rfl) (by decide +kernel) dX0_setTo_2 hf (fun σ H locs I hf => ?_)
  refine gw_aload_n hx hb dX0_setTo_5 rfl (lv_at hl 0 rfl) ?_
  refine gw_getr (k := 1) C I gcls_0 (by decide) rfl kw_8 dX0_setTo_6 hf (fun v1 hf => ?_)
  refine lv_iconst (v := 0) hx hb dX0_setTo_9 kc_i_0 ?_
  refine lv_iload_n hx hb dX0_setTo_10 rfl (lv_at hl 1 rfl) ?_
  refine lv_if_ne (tgt := 18) hx hb dX0_setTo_11 (by decide) (fun hq => ?_) (fun hq => ?_)
  · have hf := giff hq hf
    refine lv_iload_n hx hb dX0_setTo_18 rfl (lv_at hl 2 rfl) ?_
    exact w_X0_setTo_19 C hr  a0 a1 a3 a4 a5 v1 0 a2 _ _ _ _ _ _ hf I (lv_sub hl [0, 1, 3, 4, 5] rfl)
  · have hf := gift hq hf
    refine lv_iconst (v := 0) hx hb dX0_setTo_14 kc_i_0 ?_
    refine lv_goto (tgt := 19) hx hb dX0_setTo_15 (by decide) ?_
    exact w_X0_setTo_19 C hr  a0 a1 a3 a4 a5 v1 0 0 _ _ _ _ _ _ hf I (lv_sub hl [0, 1, 3, 4, 5] rfl)
end S_X0_setTo
theorem m_X0_setTo (G : gX) (l : Launch) (a0 : Option Nat) (a1 : Int32) (a2 : Int32) (a3 : Int32) (a4 : Int32) (a5 : Int32) : gMet G l yX0_setTo cX0_setTo 6 none 0 0 [va_rf a0, .int a1, .int a2, .int a3, .int a4, .int a5] grv (f_X0_setTo a0 a1 a2 a3 a4 a5) := by
  refine gMet_of (by decide) ?_
  intro σ y p e s m below meth c mc ms hf C hr hnm I
  obtain ⟨ls, e1, hl⟩ := gentry m [va_rf a0, .int a1, .int a2, .int a3, .int a4, .int a5] 6 [(0, va_rf a0), (1, .int a1), (2, .int a2), (3, .int a3), (4, .int a4), (5, .int a5)] (by simp [lg_sl, grc, gcat_i, gcat_l]) (by simp [lv_args, grc, gcat_i, gcat_l])
  rw [e1]
  exact w_X0_setTo_0 C hr a0 a1 a2 a3 a4 a5 _ _ _ _ _ _ hf I hl
def f_X0_take  (a0 : Option Nat) (a1 : Option Nat) : gM Unit := gb (rI 0 0 a1) fun v1 => gb (rR 0 1 a1) fun v2 => gb (aI 1 v2 0) fun v3 => gb (rR 0 1 a1) fun v4 => gb (aI 1 v4 1) fun v5 => gb (rR 0 1 a1) fun v6 => gb (aI 1 v6 2) fun v7 => gb (rR 0 1 a1) fun v8 => gb (aI 1 v8 3) fun v9 => gb (nn 0 a0) fun _ => gb (f_X0_setTo a0 v1 v3 v5 v7 v9) fun _ => gp ()
section S_X0_take
variable {G : gX} {p : Program} {l : Launch} {e : Env} {s : State} {m : MethodId} {args : Array Value} {below : List Frame} {meth : Method} {c : Code} {mc ms : Nat} {y : Unit × gS}
set_option maxHeartbeats 4000000 in
set_option maxRecDepth 100000 in
theorem w_X0_take_0 (C : gC G p s m args meth c cX0_take 2 RX0) (hr : meth.sig.returnType = none)  (a0 : Option Nat) (a1 : Option Nat) : gJ G p l e 1 25 mc ms s m args below meth c grv y 2 0 [(0, va_rf a0), (1, va_rf a1)] [] (f_X0_take  a0 a1) := by
  have hx := C.1
  have hb := C.2.1
  intro σ H locs cells slots ls hf I hl
  unfold f_X0_take at hf
  refine gw_aload_n hx hb dX0_take_0 rfl (lv_at hl 0 rfl) ?_
  refine gw_aload_n hx hb dX0_take_1 rfl (lv_at hl 1 rfl) ?_
  refine gw_geti (k := 0) C I gcls_0 (by decide) rfl kw_7 dX0_take_2 hf (fun v1 hf => ?_)
  refine gw_aload_n hx hb dX0_take_5 rfl (lv_at hl 1 rfl) ?_
  refine gw_getr (k := 1) C I gcls_0 (by decide) rfl kw_8 dX0_take_6 hf (fun v2 hf => ?_)
  refine lv_iconst (v := 0) hx hb dX0_take_9 kc_i_0 ?_
  refine gw_iald C I dX0_take_10 hf (fun v3 hf => ?_)
  refine gw_aload_n hx hb dX0_take_11 rfl (lv_at hl 1 rfl) ?_
  refine gw_getr (k := 1) C I gcls_0 (by decide) rfl kw_8 dX0_take_12 hf (fun v4 hf => ?_)
  refine lv_iconst (v := 1) hx hb dX0_take_15 kc_i_1 ?_
  refine gw_iald C I dX0_take_16 hf (fun v5 hf => ?_)
  refine gw_aload_n hx hb dX0_take_17 rfl (lv_at hl 1 rfl) ?_
  refine gw_getr (k := 1) C I gcls_0 (by decide) rfl kw_8 dX0_take_18 hf (fun v6 hf => ?_)
  refine lv_iconst (v := 2) hx hb dX0_take_21 kc_i_2 ?_
  refine gw_iald C I dX0_take_22 hf (fun v7 hf => ?_)
  refine gw_aload_n hx hb dX0_take_23 rfl (lv_at hl 1 rfl) ?_
  refine gw_getr (k := 1) C I gcls_0 (by decide) rfl kw_8 dX0_take_24 hf (fun v8 hf => ?_)
  refine lv_iconst (v := 3) hx hb dX0_take_27 kc_i_3 ?_
  refine gw_iald C I dX0_take_28 hf (fun v9 hf => ?_)
  refine gw_callV (rest := []) C I hl.1 gcls_0 (m_X0_setTo G l a0 v1 v3 v5 v7 v9) gl_RX0_17 gn_X0_setTo ⟨Nat.le_of_ble_eq_true rfl, Nat.le_of_ble_eq_true rfl⟩ rfl (gc4 (Nat.le_of_ble_eq_true rfl)) rfl dX0_take_29 hf (fun _ σ H locs cells slots I hf => ?_)
  refine W.eq (g2 := F0 m 32 ls []) rfl ?_
  exact gw_vret C I hr dX0_take_32 hf
end S_X0_take
theorem m_X0_take (G : gX) (l : Launch) (a0 : Option Nat) (a1 : Option Nat) : gMet G l yX0_take cX0_take 2 none 1 25 [va_rf a0, va_rf a1] grv (f_X0_take a0 a1) := by
  refine gMet_of (by decide) ?_
  intro σ y p e s m below meth c mc ms hf C hr hnm I
  obtain ⟨ls, e1, hl⟩ := gentry m [va_rf a0, va_rf a1] 2 [(0, va_rf a0), (1, va_rf a1)] (by simp [lg_sl, grc, gcat_i, gcat_l]) (by simp [lv_args, grc, gcat_i, gcat_l])
  rw [e1]
  exact w_X0_take_0 C hr a0 a1 _ _ _ _ _ _ hf I hl
def f_X3_take  (a0 : Option Nat) (a1 : Option Nat) : gM Unit := gb (rR 2 0 a0) fun v1 => gb (rR 2 0 a1) fun v2 => gb (nn 0 v1) fun _ => gb (f_X0_take v1 v2) fun _ => gb (rR 2 1 a0) fun v3 => gb (rR 2 1 a1) fun v4 => gb (nn 4 v3) fun _ => gb (f_X5_take v3 v4) fun _ => gp ()
section S_X3_take
variable {G : gX} {p : Program} {l : Launch} {e : Env} {s : State} {m : MethodId} {args : Array Value} {below : List Frame} {meth : Method} {c : Code} {mc ms : Nat} {y : Unit × gS}
set_option maxHeartbeats 4000000 in
set_option maxRecDepth 100000 in
theorem w_X3_take_0 (C : gC G p s m args meth c cX3_take 2 RX3) (hr : meth.sig.returnType = none)  (a0 : Option Nat) (a1 : Option Nat) : gJ G p l e 4 106 mc ms s m args below meth c grv y 2 0 [(0, va_rf a0), (1, va_rf a1)] [] (f_X3_take  a0 a1) := by
  have hx := C.1
  have hb := C.2.1
  intro σ H locs cells slots ls hf I hl
  unfold f_X3_take at hf
  refine gw_aload_n hx hb dX3_take_0 rfl (lv_at hl 0 rfl) ?_
  refine gw_getr (k := 0) C I gcls_2 (by decide) rfl kw_14 dX3_take_1 hf (fun v1 hf => ?_)
  refine gw_aload_n hx hb dX3_take_4 rfl (lv_at hl 1 rfl) ?_
  refine gw_getr (k := 0) C I gcls_2 (by decide) rfl kw_14 dX3_take_5 hf (fun v2 hf => ?_)
  refine gw_callV (rest := []) C I hl.1 gcls_0 (m_X0_take G l v1 v2) gl_RX3_27 gn_X0_take ⟨Nat.le_of_ble_eq_true rfl, Nat.le_of_ble_eq_true rfl⟩ rfl (gc4 (Nat.le_of_ble_eq_true rfl)) rfl dX3_take_8 hf (fun _ σ H locs cells slots I hf => ?_)
  refine W.eq (g2 := F0 m 11 ls []) rfl ?_
  refine gw_aload_n hx hb dX3_take_11 rfl (lv_at hl 0 rfl) ?_
  refine gw_getr (k := 1) C I gcls_2 (by decide) rfl kw_19 dX3_take_12 hf (fun v3 hf => ?_)
  refine gw_aload_n hx hb dX3_take_15 rfl (lv_at hl 1 rfl) ?_
  refine gw_getr (k := 1) C I gcls_2 (by decide) rfl kw_19 dX3_take_16 hf (fun v4 hf => ?_)
  refine gw_callV (rest := []) C I hl.1 gcls_4 (m_X5_take G l v3 v4) gl_RX3_31 gn_X5_take ⟨Nat.le_of_ble_eq_true rfl, Nat.le_of_ble_eq_true rfl⟩ rfl (gc4 (Nat.le_of_ble_eq_true rfl)) rfl dX3_take_19 hf (fun _ σ H locs cells slots I hf => ?_)
  refine W.eq (g2 := F0 m 22 ls []) rfl ?_
  exact gw_vret C I hr dX3_take_22 hf
end S_X3_take
theorem m_X3_take (G : gX) (l : Launch) (a0 : Option Nat) (a1 : Option Nat) : gMet G l yX3_take cX3_take 2 none 4 106 [va_rf a0, va_rf a1] grv (f_X3_take a0 a1) := by
  refine gMet_of (by decide) ?_
  intro σ y p e s m below meth c mc ms hf C hr hnm I
  obtain ⟨ls, e1, hl⟩ := gentry m [va_rf a0, va_rf a1] 2 [(0, va_rf a0), (1, va_rf a1)] (by simp [lg_sl, grc, gcat_i, gcat_l]) (by simp [lv_args, grc, gcat_i, gcat_l])
  rw [e1]
  exact w_X3_take_0 C hr a0 a1 _ _ _ _ _ _ hf I hl
def f_X6_takeAuthority  (a0 : Option Nat) (a1 : Option Nat) : gM Unit := gb (rR 5 2 a0) fun v1 => gb (rR 5 2 a1) fun v2 => gb (nn 4 v1) fun _ => gb (f_X5_take v1 v2) fun _ => gb (rR 5 3 a0) fun v3 => gb (rR 5 3 a1) fun v4 => gb (nn 4 v3) fun _ => gb (f_X5_take v3 v4) fun _ => gb (rR 5 4 a0) fun v5 => gb (rR 5 4 a1) fun v6 => gb (nn 2 v5) fun _ => gb (f_X3_take v5 v6) fun _ => gb (rI 5 5 a1) fun v7 => gb (wI 5 5 a0 v7) fun _ => gp ()
section S_X6_takeAuthority
variable {G : gX} {p : Program} {l : Launch} {e : Env} {s : State} {m : MethodId} {args : Array Value} {below : List Frame} {meth : Method} {c : Code} {mc ms : Nat} {y : Unit × gS}
set_option maxHeartbeats 4000000 in
set_option maxRecDepth 100000 in
theorem w_X6_takeAuthority_0 (C : gC G p s m args meth c cX6_takeAuthority 2 RX6) (hr : meth.sig.returnType = none)  (a0 : Option Nat) (a1 : Option Nat) : gJ G p l e 5 127 mc ms s m args below meth c grv y 2 0 [(0, va_rf a0), (1, va_rf a1)] [] (f_X6_takeAuthority  a0 a1) := by
  have hx := C.1
  have hb := C.2.1
  intro σ H locs cells slots ls hf I hl
  unfold f_X6_takeAuthority at hf
  refine gw_aload_n hx hb dX6_takeAuthority_0 rfl (lv_at hl 0 rfl) ?_
  refine gw_getr (k := 2) C I gcls_5 (by decide) rfl kw_49 dX6_takeAuthority_1 hf (fun v1 hf => ?_)
  refine gw_aload_n hx hb dX6_takeAuthority_4 rfl (lv_at hl 1 rfl) ?_
  refine gw_getr (k := 2) C I gcls_5 (by decide) rfl kw_49 dX6_takeAuthority_5 hf (fun v2 hf => ?_)
  refine gw_callV (rest := []) C I hl.1 gcls_4 (m_X5_take G l v1 v2) gl_RX6_79 gn_X5_take ⟨Nat.le_of_ble_eq_true rfl, Nat.le_of_ble_eq_true rfl⟩ rfl (gc4 (Nat.le_of_ble_eq_true rfl)) rfl dX6_takeAuthority_8 hf (fun _ σ H locs cells slots I hf => ?_)
  refine W.eq (g2 := F0 m 11 ls []) rfl ?_
  refine gw_aload_n hx hb dX6_takeAuthority_11 rfl (lv_at hl 0 rfl) ?_
  refine gw_getr (k := 3) C I gcls_5 (by decide) rfl kw_50 dX6_takeAuthority_12 hf (fun v3 hf => ?_)
  refine gw_aload_n hx hb dX6_takeAuthority_15 rfl (lv_at hl 1 rfl) ?_
  refine gw_getr (k := 3) C I gcls_5 (by decide) rfl kw_50 dX6_takeAuthority_16 hf (fun v4 hf => ?_)
  refine gw_callV (rest := []) C I hl.1 gcls_4 (m_X5_take G l v3 v4) gl_RX6_79 gn_X5_take ⟨Nat.le_of_ble_eq_true rfl, Nat.le_of_ble_eq_true rfl⟩ rfl (gc4 (Nat.le_of_ble_eq_true rfl)) rfl dX6_takeAuthority_19 hf (fun _ σ H locs cells slots I hf => ?_)
  refine W.eq (g2 := F0 m 22 ls []) rfl ?_
  refine gw_aload_n hx hb dX6_takeAuthority_22 rfl (lv_at hl 0 rfl) ?_
  refine gw_getr (k := 4) C I gcls_5 (by decide) rfl kw_55 dX6_takeAuthority_23 hf (fun v5 hf => ?_)
  refine gw_aload_n hx hb dX6_takeAuthority_26 rfl (lv_at hl 1 rfl) ?_
  refine gw_getr (k := 4) C I gcls_5 (by decide) rfl kw_55 dX6_takeAuthority_27 hf (fun v6 hf => ?_)
  refine gw_callV (rest := []) C I hl.1 gcls_2 (m_X3_take G l v5 v6) gl_RX6_83 gn_X3_take ⟨Nat.le_of_ble_eq_true rfl, Nat.le_of_ble_eq_true rfl⟩ rfl (gc4 (Nat.le_of_ble_eq_true rfl)) rfl dX6_takeAuthority_30 hf (fun _ σ H locs cells slots I hf => ?_)
  refine W.eq (g2 := F0 m 33 ls []) rfl ?_
  refine gw_aload_n hx hb dX6_takeAuthority_33 rfl (lv_at hl 0 rfl) ?_
  refine gw_aload_n hx hb dX6_takeAuthority_34 rfl (lv_at hl 1 rfl) ?_
  refine gw_geti (k := 5) C I gcls_5 (by decide) rfl kw_56 dX6_takeAuthority_35 hf (fun v7 hf => ?_)
  refine gw_puti (k := 5) C I gcls_5 (by decide) rfl kw_56 (Or.inl rfl) (by decide +kernel) dX6_takeAuthority_38 hf (fun σ H locs I hf => ?_)
  exact gw_vret C I hr dX6_takeAuthority_41 hf
end S_X6_takeAuthority
theorem m_X6_takeAuthority (G : gX) (l : Launch) (a0 : Option Nat) (a1 : Option Nat) : gMet G l yX6_takeAuthority cX6_takeAuthority 2 none 5 127 [va_rf a0, va_rf a1] grv (f_X6_takeAuthority a0 a1) := by
  refine gMet_of (by decide) ?_
  intro σ y p e s m below meth c mc ms hf C hr hnm I
  obtain ⟨ls, e1, hl⟩ := gentry m [va_rf a0, va_rf a1] 2 [(0, va_rf a0), (1, va_rf a1)] (by simp [lg_sl, grc, gcat_i, gcat_l]) (by simp [lv_args, grc, gcat_i, gcat_l])
  rw [e1]
  exact w_X6_takeAuthority_0 C hr a0 a1 _ _ _ _ _ _ hf I hl
def f_X6_takePath  (a0 : Option Nat) (a1 : Option Nat) : gM Unit := gb (rR 5 6 a0) fun v1 => gb (rR 5 6 a1) fun v2 => gb (nn 4 v1) fun _ => gb (f_X5_take v1 v2) fun _ => gb (rI 5 7 a1) fun v3 => gb (wI 5 7 a0 v3) fun _ => gp ()
section S_X6_takePath
variable {G : gX} {p : Program} {l : Launch} {e : Env} {s : State} {m : MethodId} {args : Array Value} {below : List Frame} {meth : Method} {c : Code} {mc ms : Nat} {y : Unit × gS}
set_option maxHeartbeats 4000000 in
set_option maxRecDepth 100000 in
theorem w_X6_takePath_0 (C : gC G p s m args meth c cX6_takePath 2 RX6) (hr : meth.sig.returnType = none)  (a0 : Option Nat) (a1 : Option Nat) : gJ G p l e 4 106 mc ms s m args below meth c grv y 2 0 [(0, va_rf a0), (1, va_rf a1)] [] (f_X6_takePath  a0 a1) := by
  have hx := C.1
  have hb := C.2.1
  intro σ H locs cells slots ls hf I hl
  unfold f_X6_takePath at hf
  refine gw_aload_n hx hb dX6_takePath_0 rfl (lv_at hl 0 rfl) ?_
  refine gw_getr (k := 6) C I gcls_5 (by decide) rfl kw_57 dX6_takePath_1 hf (fun v1 hf => ?_)
  refine gw_aload_n hx hb dX6_takePath_4 rfl (lv_at hl 1 rfl) ?_
  refine gw_getr (k := 6) C I gcls_5 (by decide) rfl kw_57 dX6_takePath_5 hf (fun v2 hf => ?_)
  refine gw_callV (rest := []) C I hl.1 gcls_4 (m_X5_take G l v1 v2) gl_RX6_79 gn_X5_take ⟨Nat.le_of_ble_eq_true rfl, Nat.le_of_ble_eq_true rfl⟩ rfl (gc4 (Nat.le_of_ble_eq_true rfl)) rfl dX6_takePath_8 hf (fun _ σ H locs cells slots I hf => ?_)
  refine W.eq (g2 := F0 m 11 ls []) rfl ?_
  refine gw_aload_n hx hb dX6_takePath_11 rfl (lv_at hl 0 rfl) ?_
  refine gw_aload_n hx hb dX6_takePath_12 rfl (lv_at hl 1 rfl) ?_
  refine gw_geti (k := 7) C I gcls_5 (by decide) rfl kw_58 dX6_takePath_13 hf (fun v3 hf => ?_)
  refine gw_puti (k := 7) C I gcls_5 (by decide) rfl kw_58 (Or.inl rfl) (by decide +kernel) dX6_takePath_16 hf (fun σ H locs I hf => ?_)
  exact gw_vret C I hr dX6_takePath_19 hf
end S_X6_takePath
theorem m_X6_takePath (G : gX) (l : Launch) (a0 : Option Nat) (a1 : Option Nat) : gMet G l yX6_takePath cX6_takePath 2 none 4 106 [va_rf a0, va_rf a1] grv (f_X6_takePath a0 a1) := by
  refine gMet_of (by decide) ?_
  intro σ y p e s m below meth c mc ms hf C hr hnm I
  obtain ⟨ls, e1, hl⟩ := gentry m [va_rf a0, va_rf a1] 2 [(0, va_rf a0), (1, va_rf a1)] (by simp [lg_sl, grc, gcat_i, gcat_l]) (by simp [lv_args, grc, gcat_i, gcat_l])
  rw [e1]
  exact w_X6_takePath_0 C hr a0 a1 _ _ _ _ _ _ hf I hl
def f_X6_takeQuery  (a0 : Option Nat) (a1 : Option Nat) : gM Unit := gb (rR 5 8 a0) fun v1 => gb (rR 5 8 a1) fun v2 => gb (nn 4 v1) fun _ => gb (f_X5_take v1 v2) fun _ => gb (rI 5 9 a1) fun v3 => gb (wZ 5 9 a0 v3) fun _ => gp ()
section S_X6_takeQuery
variable {G : gX} {p : Program} {l : Launch} {e : Env} {s : State} {m : MethodId} {args : Array Value} {below : List Frame} {meth : Method} {c : Code} {mc ms : Nat} {y : Unit × gS}
set_option maxHeartbeats 4000000 in
set_option maxRecDepth 100000 in
theorem w_X6_takeQuery_0 (C : gC G p s m args meth c cX6_takeQuery 2 RX6) (hr : meth.sig.returnType = none)  (a0 : Option Nat) (a1 : Option Nat) : gJ G p l e 4 106 mc ms s m args below meth c grv y 2 0 [(0, va_rf a0), (1, va_rf a1)] [] (f_X6_takeQuery  a0 a1) := by
  have hx := C.1
  have hb := C.2.1
  intro σ H locs cells slots ls hf I hl
  unfold f_X6_takeQuery at hf
  refine gw_aload_n hx hb dX6_takeQuery_0 rfl (lv_at hl 0 rfl) ?_
  refine gw_getr (k := 8) C I gcls_5 (by decide) rfl kw_59 dX6_takeQuery_1 hf (fun v1 hf => ?_)
  refine gw_aload_n hx hb dX6_takeQuery_4 rfl (lv_at hl 1 rfl) ?_
  refine gw_getr (k := 8) C I gcls_5 (by decide) rfl kw_59 dX6_takeQuery_5 hf (fun v2 hf => ?_)
  refine gw_callV (rest := []) C I hl.1 gcls_4 (m_X5_take G l v1 v2) gl_RX6_79 gn_X5_take ⟨Nat.le_of_ble_eq_true rfl, Nat.le_of_ble_eq_true rfl⟩ rfl (gc4 (Nat.le_of_ble_eq_true rfl)) rfl dX6_takeQuery_8 hf (fun _ σ H locs cells slots I hf => ?_)
  refine W.eq (g2 := F0 m 11 ls []) rfl ?_
  refine gw_aload_n hx hb dX6_takeQuery_11 rfl (lv_at hl 0 rfl) ?_
  refine gw_aload_n hx hb dX6_takeQuery_12 rfl (lv_at hl 1 rfl) ?_
  refine gw_geti (k := 9) C I gcls_5 (by decide) rfl kw_60 dX6_takeQuery_13 hf (fun v3 hf => ?_)
  refine gw_putz (k := 9) C I gcls_5 (by decide) rfl kw_60 (Or.inl rfl) (by decide +kernel) dX6_takeQuery_16 hf (fun σ H locs I hf => ?_)
  exact gw_vret C I hr dX6_takeQuery_19 hf
end S_X6_takeQuery
theorem m_X6_takeQuery (G : gX) (l : Launch) (a0 : Option Nat) (a1 : Option Nat) : gMet G l yX6_takeQuery cX6_takeQuery 2 none 4 106 [va_rf a0, va_rf a1] grv (f_X6_takeQuery a0 a1) := by
  refine gMet_of (by decide) ?_
  intro σ y p e s m below meth c mc ms hf C hr hnm I
  obtain ⟨ls, e1, hl⟩ := gentry m [va_rf a0, va_rf a1] 2 [(0, va_rf a0), (1, va_rf a1)] (by simp [lg_sl, grc, gcat_i, gcat_l]) (by simp [lv_args, grc, gcat_i, gcat_l])
  rw [e1]
  exact w_X6_takeQuery_0 C hr a0 a1 _ _ _ _ _ _ hf I hl
def f_X6_dropSegment_41  (x0 : Option Nat) (x1 : Int32) : gM Unit := gb (rR 5 6 x0) fun v1 => gb (nn 4 v1) fun _ => gb (f_X5_cutTo v1 x1) fun _ => gb (rI 5 7 x0) fun v2 => gb (wI 5 7 x0 (v2 - 1)) fun _ => gp ()
def f_X6_dropSegment_18 (rec18 : Option Nat → Int32 → gM Unit) (x0 : Option Nat) (x1 : Int32) : gM Unit := if x1 ≤ 0 then (f_X6_dropSegment_41  x0 x1) else (gb (rR 5 6 x0) fun v1 => gb (nn 4 v1) fun _ => gb (f_X5_byteAt v1 x1) fun v2 => if v2 = 47 then (f_X6_dropSegment_41  x0 x1) else (rec18 x0 (x1 + (-1))))
def f_X6_dropSegment_L18  : Nat → Option Nat → Int32 → gM Unit
  | 0, _, _ => gno
  | n + 1, x0, x1 => f_X6_dropSegment_18  (f_X6_dropSegment_L18  n) x0 x1
def f_X6_dropSegment  (a0 : Option Nat) : gM Unit := gb (rI 5 7 a0) fun v1 => if v1 = 0 then (gp ()) else (gb (rR 5 6 a0) fun v2 => gb (rI 4 1 v2) fun v3 => f_X6_dropSegment_L18  gF a0 (v3 - 1))
section S_X6_dropSegment
variable {G : gX} {p : Program} {l : Launch} {e : Env} {s : State} {m : MethodId} {args : Array Value} {below : List Frame} {meth : Method} {c : Code} {mc ms : Nat} {y : Unit × gS}
set_option maxHeartbeats 4000000 in
set_option maxRecDepth 100000 in
theorem w_X6_dropSegment_41 (C : gC G p s m args meth c cX6_dropSegment 2 RX6) (hr : meth.sig.returnType = none)  (x0 : Option Nat) (x1 : Int32) : gJ G p l e 1 21 mc ms s m args below meth c grv y 2 41 [(0, va_rf x0), (1, .int x1)] [] (f_X6_dropSegment_41  x0 x1) := by
  have hx := C.1
  have hb := C.2.1
  intro σ H locs cells slots ls hf I hl
  unfold f_X6_dropSegment_41 at hf
  refine gw_aload_n hx hb dX6_dropSegment_41 rfl (lv_at hl 0 rfl) ?_
  refine gw_getr (k := 6) C I gcls_5 (by decide) rfl kw_57 dX6_dropSegment_42 hf (fun v1 hf => ?_)
  refine lv_iload_n hx hb dX6_dropSegment_45 rfl (lv_at hl 1 rfl) ?_
  refine gw_callV (rest := []) C I hl.1 gcls_4 (m_X5_cutTo G l v1 x1) gl_RX6_67 gn_X5_cutTo ⟨Nat.le_of_ble_eq_true rfl, Nat.le_of_ble_eq_true rfl⟩ rfl (gc4 (Nat.le_of_ble_eq_true rfl)) rfl dX6_dropSegment_46 hf (fun _ σ H locs cells slots I hf => ?_)
  refine W.eq (g2 := F0 m 49 ls []) rfl ?_
  refine gw_aload_n hx hb dX6_dropSegment_49 rfl (lv_at hl 0 rfl) ?_
  refine lv_dup hx hb dX6_dropSegment_50 (grc _) ?_
  refine gw_geti (k := 7) C I gcls_5 (by decide) rfl kw_58 dX6_dropSegment_51 hf (fun v2 hf => ?_)
  refine lv_iconst (v := 1) hx hb dX6_dropSegment_54 kc_i_1 ?_
  refine lv_isub hx hb dX6_dropSegment_55 ?_
  refine gw_puti (k := 7) C I gcls_5 (by decide) rfl kw_58 (Or.inl rfl) (by decide +kernel) dX6_dropSegment_56 hf (fun σ H locs I hf => ?_)
  exact gw_vret C I hr dX6_dropSegment_59 hf
set_option maxHeartbeats 4000000 in
set_option maxRecDepth 100000 in
theorem w_X6_dropSegment_18 (C : gC G p s m args meth c cX6_dropSegment 2 RX6) (hr : meth.sig.returnType = none) {rec18 : Option Nat → Int32 → gM Unit} (hrec18 : ∀ (x0 : Option Nat) (x1 : Int32), gJ G p l e 1 21 mc ms s m args below meth c grv y 2 18 [(0, va_rf x0), (1, .int x1)] [] (rec18 x0 x1)) (x0 : Option Nat) (x1 : Int32) : gJ G p l e 1 21 mc ms s m args below meth c grv y 2 18 [(0, va_rf x0), (1, .int x1)] [] (f_X6_dropSegment_18 rec18 x0 x1) := by
  have hx := C.1
  have hb := C.2.1
  intro σ H locs cells slots ls hf I hl
  unfold f_X6_dropSegment_18 at hf
  refine lv_iload_n hx hb dX6_dropSegment_18 rfl (lv_at hl 1 rfl) ?_
  refine lv_if_le (tgt := 41) hx hb dX6_dropSegment_19 (by decide) (fun hq => ?_) (fun hq => ?_)
  · have hf := gift hq hf
    exact w_X6_dropSegment_41 C hr  x0 x1 _ _ _ _ _ _ hf I (lv_sub hl [0, 1] rfl)
  · have hf := giff hq hf
    refine gw_aload_n hx hb dX6_dropSegment_22 rfl (lv_at hl 0 rfl) ?_
    refine gw_getr (k := 6) C I gcls_5 (by decide) rfl kw_57 dX6_dropSegment_23 hf (fun v1 hf => ?_)
    refine lv_iload_n hx hb dX6_dropSegment_26 rfl (lv_at hl 1 rfl) ?_
    refine gw_callV (rest := []) C I hl.1 gcls_4 (m_X5_byteAt G l v1 x1) gl_RX6_92 gn_X5_byteAt ⟨Nat.le_of_ble_eq_true rfl, Nat.le_of_ble_eq_true rfl⟩ rfl (gc4 (Nat.le_of_ble_eq_true rfl)) rfl dX6_dropSegment_27 hf (fun v2 σ H locs cells slots I hf => ?_)
    refine W.eq (g2 := F0 m 30 ls [.int v2]) rfl ?_
    refine lv_bipush (v := 47) hx hb dX6_dropSegment_30 kc_b_47 ?_
    refine lv_icmp_eq (tgt := 41) hx hb dX6_dropSegment_32 (by decide) (fun hq => ?_) (fun hq => ?_)
    · have hf := gift hq hf
      exact w_X6_dropSegment_41 C hr  x0 x1 _ _ _ _ _ _ hf I (lv_sub hl [0, 1] rfl)
    · have hf := giff hq hf
      refine lv_iinc (v := x1 + (-1)) (lv' := [(1, .int (x1 + (-1))), (0, va_rf x0)]) hx hb dX6_dropSegment_35 hl (k := 1) rfl rfl (by decide) (by cases x0 <;> rfl) (fun ls hl => ?_)
      refine lv_goto (tgt := 18) hx hb dX6_dropSegment_38 (by decide) ?_
      exact hrec18 x0 (x1 + (-1)) _ _ _ _ _ _ hf I (lv_sub hl [1, 0] rfl)
theorem w_X6_dropSegment_L18 (C : gC G p s m args meth c cX6_dropSegment 2 RX6) (hr : meth.sig.returnType = none)  : ∀ (n : Nat) (x0 : Option Nat) (x1 : Int32), gJ G p l e 1 21 mc ms s m args below meth c grv y 2 18 [(0, va_rf x0), (1, .int x1)] [] (f_X6_dropSegment_L18  n x0 x1) := by
  intro n
  induction n with
  | zero => intro x0 x1 σ H locs cells slots ls hf; exact (gno_some hf).elim
  | succ n ih => intro x0 x1; exact w_X6_dropSegment_18 C hr  ih x0 x1
set_option maxHeartbeats 4000000 in
set_option maxRecDepth 100000 in
theorem w_X6_dropSegment_0 (C : gC G p s m args meth c cX6_dropSegment 2 RX6) (hr : meth.sig.returnType = none)  (a0 : Option Nat) : gJ G p l e 1 21 mc ms s m args below meth c grv y 2 0 [(0, va_rf a0)] [] (f_X6_dropSegment  a0) := by
  have hx := C.1
  have hb := C.2.1
  intro σ H locs cells slots ls hf I hl
  unfold f_X6_dropSegment at hf
  refine gw_aload_n hx hb dX6_dropSegment_0 rfl (lv_at hl 0 rfl) ?_
  refine gw_geti (k := 7) C I gcls_5 (by decide) rfl kw_58 dX6_dropSegment_1 hf (fun v1 hf => ?_)
  refine lv_if_ne (tgt := 8) hx hb dX6_dropSegment_4 (by decide) (fun hq => ?_) (fun hq => ?_)
  · have hf := giff hq hf
    refine gw_aload_n hx hb dX6_dropSegment_8 rfl (lv_at hl 0 rfl) ?_
    refine gw_getr (k := 6) C I gcls_5 (by decide) rfl kw_57 dX6_dropSegment_9 hf (fun v2 hf => ?_)
    refine gw_geti (k := 1) C I gcls_4 (by decide) rfl kw_114 dX6_dropSegment_12 hf (fun v3 hf => ?_)
    refine lv_iconst (v := 1) hx hb dX6_dropSegment_15 kc_i_1 ?_
    refine lv_isub hx hb dX6_dropSegment_16 ?_
    refine lv_istore_n (lv' := [(1, .int (v3 - 1)), (0, va_rf a0)]) hx hb dX6_dropSegment_17 rfl hl (by decide) (by cases a0 <;> rfl) (fun ls hl => ?_)
    exact w_X6_dropSegment_L18 C hr  _ a0 (v3 - 1) _ _ _ _ _ _ hf I (lv_sub hl [1, 0] rfl)
  · have hf := gift hq hf
    exact gw_vret C I hr dX6_dropSegment_7 hf
end S_X6_dropSegment
theorem m_X6_dropSegment (G : gX) (l : Launch) (a0 : Option Nat) : gMet G l yX6_dropSegment cX6_dropSegment 2 none 1 21 [va_rf a0] grv (f_X6_dropSegment a0) := by
  refine gMet_of (by decide) ?_
  intro σ y p e s m below meth c mc ms hf C hr hnm I
  obtain ⟨ls, e1, hl⟩ := gentry m [va_rf a0] 2 [(0, va_rf a0)] (by simp [lg_sl, grc, gcat_i, gcat_l]) (by simp [lv_args, grc, gcat_i, gcat_l])
  rw [e1]
  exact w_X6_dropSegment_0 C hr a0 _ _ _ _ _ _ hf I hl
