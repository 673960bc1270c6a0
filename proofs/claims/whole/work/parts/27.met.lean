theorem dX8_resolve_0 : decode cX8_resolve 0 = .ok (.iload_n 1, 1) := by decide +kernel
theorem dX8_resolve_1 : decode cX8_resolve 1 = .ok (.iconst 4, 1) := by decide +kernel
theorem dX8_resolve_2 : decode cX8_resolve 2 = .ok (.if_icmp .eq 12, 3) := by decide +kernel
theorem dX8_resolve_5 : decode cX8_resolve 5 = .ok (.iload_n 1, 1) := by decide +kernel
theorem dX8_resolve_6 : decode cX8_resolve 6 = .ok (.bipush 6, 2) := by decide +kernel
theorem dX8_resolve_8 : decode cX8_resolve 8 = .ok (.if_icmp .eq 6, 3) := by decide +kernel
theorem dX8_resolve_11 : decode cX8_resolve 11 = .ok (.bipush (-2), 2) := by decide +kernel
theorem dX8_resolve_13 : decode cX8_resolve 13 = .ok (.ireturn, 1) := by decide +kernel
theorem dX8_resolve_14 : decode cX8_resolve 14 = .ok (.aload_n 0, 1) := by decide +kernel
theorem dX8_resolve_15 : decode cX8_resolve 15 = .ok (.invokevirtual 121, 3) := by decide +kernel
theorem dX8_resolve_18 : decode cX8_resolve 18 = .ok (.istore 6, 2) := by decide +kernel
theorem dX8_resolve_20 : decode cX8_resolve 20 = .ok (.iload 6, 2) := by decide +kernel
theorem dX8_resolve_22 : decode cX8_resolve 22 = .ok (.ifCond .eq 6, 3) := by decide +kernel
theorem dX8_resolve_25 : decode cX8_resolve 25 = .ok (.iload 6, 2) := by decide +kernel
theorem dX8_resolve_27 : decode cX8_resolve 27 = .ok (.ireturn, 1) := by decide +kernel
theorem dX8_resolve_28 : decode cX8_resolve 28 = .ok (.aload_n 0, 1) := by decide +kernel
theorem dX8_resolve_29 : decode cX8_resolve 29 = .ok (.getfield 28, 3) := by decide +kernel
theorem dX8_resolve_32 : decode cX8_resolve 32 = .ok (.invokevirtual 124, 3) := by decide +kernel
theorem dX8_resolve_35 : decode cX8_resolve 35 = .ok (.ifCond .ne 6, 3) := by decide +kernel
theorem dX8_resolve_38 : decode cX8_resolve 38 = .ok (.bipush (-2), 2) := by decide +kernel
theorem dX8_resolve_40 : decode cX8_resolve 40 = .ok (.ireturn, 1) := by decide +kernel
theorem dX8_resolve_41 : decode cX8_resolve 41 = .ok (.aload_n 0, 1) := by decide +kernel
theorem dX8_resolve_42 : decode cX8_resolve 42 = .ok (.getfield 49, 3) := by decide +kernel
theorem dX8_resolve_45 : decode cX8_resolve 45 = .ok (.aload_n 0, 1) := by decide +kernel
theorem dX8_resolve_46 : decode cX8_resolve 46 = .ok (.getfield 28, 3) := by decide +kernel
theorem dX8_resolve_49 : decode cX8_resolve 49 = .ok (.getfield 132, 3) := by decide +kernel
theorem dX8_resolve_52 : decode cX8_resolve 52 = .ok (.iload_n 1, 1) := by decide +kernel
theorem dX8_resolve_53 : decode cX8_resolve 53 = .ok (.iload_n 2, 1) := by decide +kernel
theorem dX8_resolve_54 : decode cX8_resolve 54 = .ok (.iload_n 3, 1) := by decide +kernel
theorem dX8_resolve_55 : decode cX8_resolve 55 = .ok (.iload 4, 2) := by decide +kernel
theorem dX8_resolve_57 : decode cX8_resolve 57 = .ok (.iload 5, 2) := by decide +kernel
theorem dX8_resolve_59 : decode cX8_resolve 59 = .ok (.invokevirtual 135, 3) := by decide +kernel
theorem dX8_resolve_62 : decode cX8_resolve 62 = .ok (.ireturn, 1) := by decide +kernel
theorem dX2_addRange_0 : decode cX2_addRange 0 = .ok (.aload_n 0, 1) := by decide +kernel
theorem dX2_addRange_1 : decode cX2_addRange 1 = .ok (.getfield 47, 3) := by decide +kernel
theorem dX2_addRange_4 : decode cX2_addRange 4 = .ok (.bipush 12, 2) := by decide +kernel
theorem dX2_addRange_6 : decode cX2_addRange 6 = .ok (.if_icmp .lt 6, 3) := by decide +kernel
theorem dX2_addRange_9 : decode cX2_addRange 9 = .ok (.bipush (-3), 2) := by decide +kernel
theorem dX2_addRange_11 : decode cX2_addRange 11 = .ok (.ireturn, 1) := by decide +kernel
theorem dX2_addRange_12 : decode cX2_addRange 12 = .ok (.new 31, 3) := by decide +kernel
theorem dX2_addRange_15 : decode cX2_addRange 15 = .ok (.dup, 1) := by decide +kernel
theorem dX2_addRange_16 : decode cX2_addRange 16 = .ok (.invokespecial 59, 3) := by decide +kernel
theorem dX2_addRange_19 : decode cX2_addRange 19 = .ok (.astore 7, 2) := by decide +kernel
theorem dX2_addRange_21 : decode cX2_addRange 21 = .ok (.aload 7, 2) := by decide +kernel
theorem dX2_addRange_23 : decode cX2_addRange 23 = .ok (.iload_n 1, 1) := by decide +kernel
theorem dX2_addRange_24 : decode cX2_addRange 24 = .ok (.iload_n 2, 1) := by decide +kernel
theorem dX2_addRange_25 : decode cX2_addRange 25 = .ok (.iload_n 3, 1) := by decide +kernel
theorem dX2_addRange_26 : decode cX2_addRange 26 = .ok (.iload 4, 2) := by decide +kernel
theorem dX2_addRange_28 : decode cX2_addRange 28 = .ok (.iload 5, 2) := by decide +kernel
theorem dX2_addRange_30 : decode cX2_addRange 30 = .ok (.invokevirtual 60, 3) := by decide +kernel
theorem dX2_addRange_33 : decode cX2_addRange 33 = .ok (.aload_n 0, 1) := by decide +kernel
theorem dX2_addRange_34 : decode cX2_addRange 34 = .ok (.getfield 40, 3) := by decide +kernel
theorem dX2_addRange_37 : decode cX2_addRange 37 = .ok (.aload_n 0, 1) := by decide +kernel
theorem dX2_addRange_38 : decode cX2_addRange 38 = .ok (.getfield 47, 3) := by decide +kernel
theorem dX2_addRange_41 : decode cX2_addRange 41 = .ok (.aload 7, 2) := by decide +kernel
theorem dX2_addRange_43 : decode cX2_addRange 43 = .ok (.aastore, 1) := by decide +kernel
theorem dX2_addRange_44 : decode cX2_addRange 44 = .ok (.aload_n 0, 1) := by decide +kernel
theorem dX2_addRange_45 : decode cX2_addRange 45 = .ok (.getfield 43, 3) := by decide +kernel
theorem dX2_addRange_48 : decode cX2_addRange 48 = .ok (.aload_n 0, 1) := by decide +kernel
theorem dX2_addRange_49 : decode cX2_addRange 49 = .ok (.getfield 47, 3) := by decide +kernel
theorem dX2_addRange_52 : decode cX2_addRange 52 = .ok (.iload 6, 2) := by decide +kernel
theorem dX2_addRange_54 : decode cX2_addRange 54 = .ok (.iastore, 1) := by decide +kernel
theorem dX2_addRange_55 : decode cX2_addRange 55 = .ok (.aload_n 0, 1) := by decide +kernel
theorem dX2_addRange_56 : decode cX2_addRange 56 = .ok (.dup, 1) := by decide +kernel
theorem dX2_addRange_57 : decode cX2_addRange 57 = .ok (.getfield 47, 3) := by decide +kernel
theorem dX2_addRange_60 : decode cX2_addRange 60 = .ok (.iconst 1, 1) := by decide +kernel
theorem dX2_addRange_61 : decode cX2_addRange 61 = .ok (.iadd, 1) := by decide +kernel
theorem dX2_addRange_62 : decode cX2_addRange 62 = .ok (.putfield 47, 3) := by decide +kernel
theorem dX2_addRange_65 : decode cX2_addRange 65 = .ok (.aload_n 0, 1) := by decide +kernel
theorem dX2_addRange_66 : decode cX2_addRange 66 = .ok (.getfield 47, 3) := by decide +kernel
theorem dX2_addRange_69 : decode cX2_addRange 69 = .ok (.ireturn, 1) := by decide +kernel
theorem dX8_range_0 : decode cX8_range 0 = .ok (.iload_n 1, 1) := by decide +kernel
theorem dX8_range_1 : decode cX8_range 1 = .ok (.iconst 4, 1) := by decide +kernel
theorem dX8_range_2 : decode cX8_range 2 = .ok (.if_icmp .eq 9, 3) := by decide +kernel
theorem dX8_range_5 : decode cX8_range 5 = .ok (.iload_n 1, 1) := by decide +kernel
theorem dX8_range_6 : decode cX8_range 6 = .ok (.bipush 6, 2) := by decide +kernel
theorem dX8_range_8 : decode cX8_range 8 = .ok (.if_icmp .ne 26, 3) := by decide +kernel
theorem dX8_range_11 : decode cX8_range 11 = .ok (.iload 6, 2) := by decide +kernel
theorem dX8_range_13 : decode cX8_range 13 = .ok (.ifCond .lt 21, 3) := by decide +kernel
theorem dX8_range_16 : decode cX8_range 16 = .ok (.iload 6, 2) := by decide +kernel
theorem dX8_range_18 : decode cX8_range 18 = .ok (.iload_n 1, 1) := by decide +kernel
theorem dX8_range_19 : decode cX8_range 19 = .ok (.iconst 4, 1) := by decide +kernel
theorem dX8_range_20 : decode cX8_range 20 = .ok (.if_icmp .ne 8, 3) := by decide +kernel
theorem dX8_range_23 : decode cX8_range 23 = .ok (.bipush 32, 2) := by decide +kernel
theorem dX8_range_25 : decode cX8_range 25 = .ok (.goto 6, 3) := by decide +kernel
theorem dX8_range_28 : decode cX8_range 28 = .ok (.sipush 128, 3) := by decide +kernel
theorem dX8_range_31 : decode cX8_range 31 = .ok (.if_icmp .le 6, 3) := by decide +kernel
theorem dX8_range_34 : decode cX8_range 34 = .ok (.bipush (-2), 2) := by decide +kernel
theorem dX8_range_36 : decode cX8_range 36 = .ok (.ireturn, 1) := by decide +kernel
theorem dX8_range_37 : decode cX8_range 37 = .ok (.aload_n 0, 1) := by decide +kernel
theorem dX8_range_38 : decode cX8_range 38 = .ok (.getfield 49, 3) := by decide +kernel
theorem dX8_range_41 : decode cX8_range 41 = .ok (.iload_n 1, 1) := by decide +kernel
theorem dX8_range_42 : decode cX8_range 42 = .ok (.iload_n 2, 1) := by decide +kernel
theorem dX8_range_43 : decode cX8_range 43 = .ok (.iload_n 3, 1) := by decide +kernel
theorem dX8_range_44 : decode cX8_range 44 = .ok (.iload 4, 2) := by decide +kernel
theorem dX8_range_46 : decode cX8_range 46 = .ok (.iload 5, 2) := by decide +kernel
theorem dX8_range_48 : decode cX8_range 48 = .ok (.iload 6, 2) := by decide +kernel
theorem dX8_range_50 : decode cX8_range 50 = .ok (.invokevirtual 139, 3) := by decide +kernel
theorem dX8_range_53 : decode cX8_range 53 = .ok (.ireturn, 1) := by decide +kernel
theorem dX2_forget_0 : decode cX2_forget 0 = .ok (.aload_n 0, 1) := by decide +kernel
theorem dX2_forget_1 : decode cX2_forget 1 = .ok (.getfield 21, 3) := by decide +kernel
theorem dX2_forget_4 : decode cX2_forget 4 = .ok (.aload_n 0, 1) := by decide +kernel
theorem dX2_forget_5 : decode cX2_forget 5 = .ok (.getfield 37, 3) := by decide +kernel
theorem dX2_forget_8 : decode cX2_forget 8 = .ok (.iadd, 1) := by decide +kernel
theorem dX2_forget_9 : decode cX2_forget 9 = .ok (.aload_n 0, 1) := by decide +kernel
theorem dX2_forget_10 : decode cX2_forget 10 = .ok (.getfield 47, 3) := by decide +kernel
theorem dX2_forget_13 : decode cX2_forget 13 = .ok (.iadd, 1) := by decide +kernel
theorem dX2_forget_14 : decode cX2_forget 14 = .ok (.istore_n 1, 1) := by decide +kernel
theorem dX2_forget_15 : decode cX2_forget 15 = .ok (.aload_n 0, 1) := by decide +kernel
theorem dX2_forget_16 : decode cX2_forget 16 = .ok (.iconst 0, 1) := by decide +kernel
theorem dX2_forget_17 : decode cX2_forget 17 = .ok (.putfield 21, 3) := by decide +kernel
theorem dX2_forget_20 : decode cX2_forget 20 = .ok (.aload_n 0, 1) := by decide +kernel
theorem dX2_forget_21 : decode cX2_forget 21 = .ok (.iconst 0, 1) := by decide +kernel
theorem dX2_forget_22 : decode cX2_forget 22 = .ok (.putfield 37, 3) := by decide +kernel
theorem dX2_forget_25 : decode cX2_forget 25 = .ok (.aload_n 0, 1) := by decide +kernel
theorem dX2_forget_26 : decode cX2_forget 26 = .ok (.iconst 0, 1) := by decide +kernel
theorem dX2_forget_27 : decode cX2_forget 27 = .ok (.putfield 47, 3) := by decide +kernel
theorem dX2_forget_30 : decode cX2_forget 30 = .ok (.iload_n 1, 1) := by decide +kernel
theorem dX2_forget_31 : decode cX2_forget 31 = .ok (.ireturn, 1) := by decide +kernel
theorem dX8_clear_0 : decode cX8_clear 0 = .ok (.aload_n 0, 1) := by decide +kernel
theorem dX8_clear_1 : decode cX8_clear 1 = .ok (.getfield 49, 3) := by decide +kernel
theorem dX8_clear_4 : decode cX8_clear 4 = .ok (.invokevirtual 143, 3) := by decide +kernel
theorem dX8_clear_7 : decode cX8_clear 7 = .ok (.ireturn, 1) := by decide +kernel
theorem dX2_isBelow_0 : decode cX2_isBelow 0 = .ok (.aload_n 0, 1) := by decide +kernel
theorem dX2_isBelow_1 : decode cX2_isBelow 1 = .ok (.invokevirtual 81, 3) := by decide +kernel
theorem dX2_isBelow_4 : decode cX2_isBelow 4 = .ok (.ifCond .eq 50, 3) := by decide +kernel
theorem dX2_isBelow_7 : decode cX2_isBelow 7 = .ok (.aload_n 0, 1) := by decide +kernel
theorem dX2_isBelow_8 : decode cX2_isBelow 8 = .ok (.getfield 84, 3) := by decide +kernel
theorem dX2_isBelow_11 : decode cX2_isBelow 11 = .ok (.aload_n 1, 1) := by decide +kernel
theorem dX2_isBelow_12 : decode cX2_isBelow 12 = .ok (.getfield 84, 3) := by decide +kernel
theorem dX2_isBelow_15 : decode cX2_isBelow 15 = .ok (.invokevirtual 107, 3) := by decide +kernel
theorem dX2_isBelow_18 : decode cX2_isBelow 18 = .ok (.ifCond .eq 36, 3) := by decide +kernel
theorem dX2_isBelow_21 : decode cX2_isBelow 21 = .ok (.aload_n 0, 1) := by decide +kernel
theorem dX2_isBelow_22 : decode cX2_isBelow 22 = .ok (.getfield 84, 3) := by decide +kernel
theorem dX2_isBelow_25 : decode cX2_isBelow 25 = .ok (.aload_n 0, 1) := by decide +kernel
theorem dX2_isBelow_26 : decode cX2_isBelow 26 = .ok (.getfield 84, 3) := by decide +kernel
theorem dX2_isBelow_29 : decode cX2_isBelow 29 = .ok (.getfield 111, 3) := by decide +kernel
theorem dX2_isBelow_32 : decode cX2_isBelow 32 = .ok (.aload_n 1, 1) := by decide +kernel
theorem dX2_isBelow_33 : decode cX2_isBelow 33 = .ok (.getfield 84, 3) := by decide +kernel
theorem dX2_isBelow_36 : decode cX2_isBelow 36 = .ok (.getfield 111, 3) := by decide +kernel
theorem dX2_isBelow_39 : decode cX2_isBelow 39 = .ok (.isub, 1) := by decide +kernel
theorem dX2_isBelow_40 : decode cX2_isBelow 40 = .ok (.iconst 1, 1) := by decide +kernel
theorem dX2_isBelow_41 : decode cX2_isBelow 41 = .ok (.isub, 1) := by decide +kernel
theorem dX2_isBelow_42 : decode cX2_isBelow 42 = .ok (.invokevirtual 114, 3) := by decide +kernel
theorem dX2_isBelow_45 : decode cX2_isBelow 45 = .ok (.bipush 46, 2) := by decide +kernel
theorem dX2_isBelow_47 : decode cX2_isBelow 47 = .ok (.if_icmp .ne 7, 3) := by decide +kernel
theorem dX2_isBelow_50 : decode cX2_isBelow 50 = .ok (.iconst 1, 1) := by decide +kernel
theorem dX2_isBelow_51 : decode cX2_isBelow 51 = .ok (.goto 4, 3) := by decide +kernel
theorem dX2_isBelow_54 : decode cX2_isBelow 54 = .ok (.iconst 0, 1) := by decide +kernel
theorem dX2_isBelow_55 : decode cX2_isBelow 55 = .ok (.ireturn, 1) := by decide +kernel
theorem dX2_isListed_0 : decode cX2_isListed 0 = .ok (.iconst 0, 1) := by decide +kernel
theorem dX2_isListed_1 : decode cX2_isListed 1 = .ok (.istore_n 2, 1) := by decide +kernel
theorem dX2_isListed_2 : decode cX2_isListed 2 = .ok (.iload_n 2, 1) := by decide +kernel
theorem dX2_isListed_3 : decode cX2_isListed 3 = .ok (.aload_n 0, 1) := by decide +kernel
theorem dX2_isListed_4 : decode cX2_isListed 4 = .ok (.getfield 21, 3) := by decide +kernel
theorem dX2_isListed_7 : decode cX2_isListed 7 = .ok (.if_icmp .ge 53, 3) := by decide +kernel
theorem dX2_isListed_10 : decode cX2_isListed 10 = .ok (.iload_n 2, 1) := by decide +kernel
theorem dX2_isListed_11 : decode cX2_isListed 11 = .ok (.bipush 12, 2) := by decide +kernel
theorem dX2_isListed_13 : decode cX2_isListed 13 = .ok (.if_icmp .ge 47, 3) := by decide +kernel
theorem dX2_isListed_16 : decode cX2_isListed 16 = .ok (.aload_n 0, 1) := by decide +kernel
theorem dX2_isListed_17 : decode cX2_isListed 17 = .ok (.getfield 13, 3) := by decide +kernel
theorem dX2_isListed_20 : decode cX2_isListed 20 = .ok (.iload_n 2, 1) := by decide +kernel
theorem dX2_isListed_21 : decode cX2_isListed 21 = .ok (.aaload, 1) := by decide +kernel
theorem dX2_isListed_22 : decode cX2_isListed 22 = .ok (.astore_n 3, 1) := by decide +kernel
theorem dX2_isListed_23 : decode cX2_isListed 23 = .ok (.aload_n 3, 1) := by decide +kernel
theorem dX2_isListed_24 : decode cX2_isListed 24 = .ok (.ifnull 30, 3) := by decide +kernel
theorem dX2_isListed_27 : decode cX2_isListed 27 = .ok (.aload_n 1, 1) := by decide +kernel
theorem dX2_isListed_28 : decode cX2_isListed 28 = .ok (.aload_n 3, 1) := by decide +kernel
theorem dX2_isListed_29 : decode cX2_isListed 29 = .ok (.invokevirtual 100, 3) := by decide +kernel
theorem dX2_isListed_32 : decode cX2_isListed 32 = .ok (.ifCond .ne 20, 3) := by decide +kernel
theorem dX2_isListed_35 : decode cX2_isListed 35 = .ok (.aload_n 0, 1) := by decide +kernel
theorem dX2_isListed_36 : decode cX2_isListed 36 = .ok (.getfield 17, 3) := by decide +kernel
theorem dX2_isListed_39 : decode cX2_isListed 39 = .ok (.iload_n 2, 1) := by decide +kernel
theorem dX2_isListed_40 : decode cX2_isListed 40 = .ok (.baload, 1) := by decide +kernel
theorem dX2_isListed_41 : decode cX2_isListed 41 = .ok (.ifCond .eq 13, 3) := by decide +kernel
theorem dX2_isListed_44 : decode cX2_isListed 44 = .ok (.aload_n 1, 1) := by decide +kernel
theorem dX2_isListed_45 : decode cX2_isListed 45 = .ok (.aload_n 3, 1) := by decide +kernel
theorem dX2_isListed_46 : decode cX2_isListed 46 = .ok (.invokestatic 103, 3) := by decide +kernel
theorem dX2_isListed_49 : decode cX2_isListed 49 = .ok (.ifCond .eq 5, 3) := by decide +kernel
theorem dX2_isListed_52 : decode cX2_isListed 52 = .ok (.iconst 1, 1) := by decide +kernel
theorem dX2_isListed_53 : decode cX2_isListed 53 = .ok (.ireturn, 1) := by decide +kernel
theorem dX2_isListed_54 : decode cX2_isListed 54 = .ok (.iinc 2 1, 3) := by decide +kernel
theorem dX2_isListed_57 : decode cX2_isListed 57 = .ok (.goto (-55), 3) := by decide +kernel
theorem dX2_isListed_60 : decode cX2_isListed 60 = .ok (.iconst 0, 1) := by decide +kernel
theorem dX2_isListed_61 : decode cX2_isListed 61 = .ok (.ireturn, 1) := by decide +kernel
theorem dX0_isFourInSix_0 : decode cX0_isFourInSix 0 = .ok (.aload_n 0, 1) := by decide +kernel
theorem dX0_isFourInSix_1 : decode cX0_isFourInSix 1 = .ok (.getfield 7, 3) := by decide +kernel
theorem dX0_isFourInSix_4 : decode cX0_isFourInSix 4 = .ok (.bipush 6, 2) := by decide +kernel
theorem dX0_isFourInSix_6 : decode cX0_isFourInSix 6 = .ok (.if_icmp .ne 36, 3) := by decide +kernel
theorem dX0_isFourInSix_9 : decode cX0_isFourInSix 9 = .ok (.aload_n 0, 1) := by decide +kernel
theorem dX0_isFourInSix_10 : decode cX0_isFourInSix 10 = .ok (.getfield 13, 3) := by decide +kernel
theorem dX0_isFourInSix_13 : decode cX0_isFourInSix 13 = .ok (.iconst 0, 1) := by decide +kernel
theorem dX0_isFourInSix_14 : decode cX0_isFourInSix 14 = .ok (.iaload, 1) := by decide +kernel
theorem dX0_isFourInSix_15 : decode cX0_isFourInSix 15 = .ok (.ifCond .ne 27, 3) := by decide +kernel
theorem dX0_isFourInSix_18 : decode cX0_isFourInSix 18 = .ok (.aload_n 0, 1) := by decide +kernel
theorem dX0_isFourInSix_19 : decode cX0_isFourInSix 19 = .ok (.getfield 13, 3) := by decide +kernel
theorem dX0_isFourInSix_22 : decode cX0_isFourInSix 22 = .ok (.iconst 1, 1) := by decide +kernel
theorem dX0_isFourInSix_23 : decode cX0_isFourInSix 23 = .ok (.iaload, 1) := by decide +kernel
theorem dX0_isFourInSix_24 : decode cX0_isFourInSix 24 = .ok (.ifCond .ne 18, 3) := by decide +kernel
theorem dX0_isFourInSix_27 : decode cX0_isFourInSix 27 = .ok (.aload_n 0, 1) := by decide +kernel
theorem dX0_isFourInSix_28 : decode cX0_isFourInSix 28 = .ok (.getfield 13, 3) := by decide +kernel
theorem dX0_isFourInSix_31 : decode cX0_isFourInSix 31 = .ok (.iconst 2, 1) := by decide +kernel
theorem dX0_isFourInSix_32 : decode cX0_isFourInSix 32 = .ok (.iaload, 1) := by decide +kernel
theorem dX0_isFourInSix_33 : decode cX0_isFourInSix 33 = .ok (.ldc 21, 2) := by decide +kernel
theorem dX0_isFourInSix_35 : decode cX0_isFourInSix 35 = .ok (.if_icmp .ne 7, 3) := by decide +kernel
theorem dX0_isFourInSix_38 : decode cX0_isFourInSix 38 = .ok (.iconst 1, 1) := by decide +kernel
theorem dX0_isFourInSix_39 : decode cX0_isFourInSix 39 = .ok (.goto 4, 3) := by decide +kernel
theorem dX0_isFourInSix_42 : decode cX0_isFourInSix 42 = .ok (.iconst 0, 1) := by decide +kernel
theorem dX0_isFourInSix_43 : decode cX0_isFourInSix 43 = .ok (.ireturn, 1) := by decide +kernel
theorem dX0_agree_0 : decode cX0_agree 0 = .ok (.iload_n 2, 1) := by decide +kernel
theorem dX0_agree_1 : decode cX0_agree 1 = .ok (.ifCond .gt 5, 3) := by decide +kernel
theorem dX0_agree_4 : decode cX0_agree 4 = .ok (.iconst 1, 1) := by decide +kernel
theorem dX0_agree_5 : decode cX0_agree 5 = .ok (.ireturn, 1) := by decide +kernel
theorem dX0_agree_6 : decode cX0_agree 6 = .ok (.iload_n 2, 1) := by decide +kernel
theorem dX0_agree_7 : decode cX0_agree 7 = .ok (.bipush 32, 2) := by decide +kernel
theorem dX0_agree_9 : decode cX0_agree 9 = .ok (.if_icmp .lt 16, 3) := by decide +kernel
theorem dX0_agree_12 : decode cX0_agree 12 = .ok (.iload_n 0, 1) := by decide +kernel
theorem dX0_agree_13 : decode cX0_agree 13 = .ok (.iload_n 1, 1) := by decide +kernel
theorem dX0_agree_14 : decode cX0_agree 14 = .ok (.if_icmp .ne 7, 3) := by decide +kernel
theorem dX0_agree_17 : decode cX0_agree 17 = .ok (.iconst 1, 1) := by decide +kernel
theorem dX0_agree_18 : decode cX0_agree 18 = .ok (.goto 23, 3) := by decide +kernel
theorem dX0_agree_21 : decode cX0_agree 21 = .ok (.iconst 0, 1) := by decide +kernel
theorem dX0_agree_22 : decode cX0_agree 22 = .ok (.goto 19, 3) := by decide +kernel
theorem dX0_agree_25 : decode cX0_agree 25 = .ok (.iload_n 0, 1) := by decide +kernel
theorem dX0_agree_26 : decode cX0_agree 26 = .ok (.iload_n 1, 1) := by decide +kernel
theorem dX0_agree_27 : decode cX0_agree 27 = .ok (.ixor, 1) := by decide +kernel
theorem dX0_agree_28 : decode cX0_agree 28 = .ok (.bipush 32, 2) := by decide +kernel
theorem dX0_agree_30 : decode cX0_agree 30 = .ok (.iload_n 2, 1) := by decide +kernel
theorem dX0_agree_31 : decode cX0_agree 31 = .ok (.isub, 1) := by decide +kernel
theorem dX0_agree_32 : decode cX0_agree 32 = .ok (.iushr, 1) := by decide +kernel
theorem dX0_agree_33 : decode cX0_agree 33 = .ok (.ifCond .ne 7, 3) := by decide +kernel
theorem dX0_agree_36 : decode cX0_agree 36 = .ok (.iconst 1, 1) := by decide +kernel
theorem dX0_agree_37 : decode cX0_agree 37 = .ok (.goto 4, 3) := by decide +kernel
theorem dX0_agree_40 : decode cX0_agree 40 = .ok (.iconst 0, 1) := by decide +kernel
theorem dX0_agree_41 : decode cX0_agree 41 = .ok (.ireturn, 1) := by decide +kernel
theorem dX0_isIn_0 : decode cX0_isIn 0 = .ok (.aload_n 0, 1) := by decide +kernel
theorem dX0_isIn_1 : decode cX0_isIn 1 = .ok (.invokevirtual 22, 3) := by decide +kernel
theorem dX0_isIn_4 : decode cX0_isIn 4 = .ok (.ifCond .eq 36, 3) := by decide +kernel
theorem dX0_isIn_7 : decode cX0_isIn 7 = .ok (.aload_n 1, 1) := by decide +kernel
theorem dX0_isIn_8 : decode cX0_isIn 8 = .ok (.getfield 7, 3) := by decide +kernel
theorem dX0_isIn_11 : decode cX0_isIn 11 = .ok (.iconst 4, 1) := by decide +kernel
theorem dX0_isIn_12 : decode cX0_isIn 12 = .ok (.if_icmp .ne 26, 3) := by decide +kernel
theorem dX0_isIn_15 : decode cX0_isIn 15 = .ok (.aload_n 0, 1) := by decide +kernel
theorem dX0_isIn_16 : decode cX0_isIn 16 = .ok (.getfield 13, 3) := by decide +kernel
theorem dX0_isIn_19 : decode cX0_isIn 19 = .ok (.iconst 3, 1) := by decide +kernel
theorem dX0_isIn_20 : decode cX0_isIn 20 = .ok (.iaload, 1) := by decide +kernel
theorem dX0_isIn_21 : decode cX0_isIn 21 = .ok (.aload_n 1, 1) := by decide +kernel
theorem dX0_isIn_22 : decode cX0_isIn 22 = .ok (.getfield 13, 3) := by decide +kernel
theorem dX0_isIn_25 : decode cX0_isIn 25 = .ok (.iconst 0, 1) := by decide +kernel
theorem dX0_isIn_26 : decode cX0_isIn 26 = .ok (.iaload, 1) := by decide +kernel
theorem dX0_isIn_27 : decode cX0_isIn 27 = .ok (.iload_n 2, 1) := by decide +kernel
theorem dX0_isIn_28 : decode cX0_isIn 28 = .ok (.invokestatic 26, 3) := by decide +kernel
theorem dX0_isIn_31 : decode cX0_isIn 31 = .ok (.ifCond .eq 7, 3) := by decide +kernel
theorem dX0_isIn_34 : decode cX0_isIn 34 = .ok (.iconst 1, 1) := by decide +kernel
theorem dX0_isIn_35 : decode cX0_isIn 35 = .ok (.goto 4, 3) := by decide +kernel
theorem dX0_isIn_38 : decode cX0_isIn 38 = .ok (.iconst 0, 1) := by decide +kernel
theorem dX0_isIn_39 : decode cX0_isIn 39 = .ok (.ireturn, 1) := by decide +kernel
theorem dX0_isIn_40 : decode cX0_isIn 40 = .ok (.aload_n 0, 1) := by decide +kernel
theorem dX0_isIn_41 : decode cX0_isIn 41 = .ok (.getfield 7, 3) := by decide +kernel
theorem dX0_isIn_44 : decode cX0_isIn 44 = .ok (.aload_n 1, 1) := by decide +kernel
theorem dX0_isIn_45 : decode cX0_isIn 45 = .ok (.getfield 7, 3) := by decide +kernel
theorem dX0_isIn_48 : decode cX0_isIn 48 = .ok (.if_icmp .eq 5, 3) := by decide +kernel
theorem dX0_isIn_51 : decode cX0_isIn 51 = .ok (.iconst 0, 1) := by decide +kernel
theorem dX0_isIn_52 : decode cX0_isIn 52 = .ok (.ireturn, 1) := by decide +kernel
theorem dX0_isIn_53 : decode cX0_isIn 53 = .ok (.iconst 0, 1) := by decide +kernel
theorem dX0_isIn_54 : decode cX0_isIn 54 = .ok (.istore_n 3, 1) := by decide +kernel
theorem dX0_isIn_55 : decode cX0_isIn 55 = .ok (.iload_n 3, 1) := by decide +kernel
theorem dX0_isIn_56 : decode cX0_isIn 56 = .ok (.iconst 4, 1) := by decide +kernel
theorem dX0_isIn_57 : decode cX0_isIn 57 = .ok (.if_icmp .ge 35, 3) := by decide +kernel
theorem dX0_isIn_60 : decode cX0_isIn 60 = .ok (.aload_n 0, 1) := by decide +kernel
theorem dX0_isIn_61 : decode cX0_isIn 61 = .ok (.getfield 13, 3) := by decide +kernel
theorem dX0_isIn_64 : decode cX0_isIn 64 = .ok (.iload_n 3, 1) := by decide +kernel
theorem dX0_isIn_65 : decode cX0_isIn 65 = .ok (.iaload, 1) := by decide +kernel
theorem dX0_isIn_66 : decode cX0_isIn 66 = .ok (.aload_n 1, 1) := by decide +kernel
theorem dX0_isIn_67 : decode cX0_isIn 67 = .ok (.getfield 13, 3) := by decide +kernel
theorem dX0_isIn_70 : decode cX0_isIn 70 = .ok (.iload_n 3, 1) := by decide +kernel
theorem dX0_isIn_71 : decode cX0_isIn 71 = .ok (.iaload, 1) := by decide +kernel
theorem dX0_isIn_72 : decode cX0_isIn 72 = .ok (.iload_n 2, 1) := by decide +kernel
theorem dX0_isIn_73 : decode cX0_isIn 73 = .ok (.bipush 32, 2) := by decide +kernel
theorem dX0_isIn_75 : decode cX0_isIn 75 = .ok (.iload_n 3, 1) := by decide +kernel
theorem dX0_isIn_76 : decode cX0_isIn 76 = .ok (.imul, 1) := by decide +kernel
theorem dX0_isIn_77 : decode cX0_isIn 77 = .ok (.isub, 1) := by decide +kernel
theorem dX0_isIn_78 : decode cX0_isIn 78 = .ok (.invokestatic 26, 3) := by decide +kernel
theorem dX0_isIn_81 : decode cX0_isIn 81 = .ok (.ifCond .ne 5, 3) := by decide +kernel
theorem dX0_isIn_84 : decode cX0_isIn 84 = .ok (.iconst 0, 1) := by decide +kernel
theorem dX0_isIn_85 : decode cX0_isIn 85 = .ok (.ireturn, 1) := by decide +kernel
theorem dX0_isIn_86 : decode cX0_isIn 86 = .ok (.iinc 3 1, 3) := by decide +kernel
theorem dX0_isIn_89 : decode cX0_isIn 89 = .ok (.goto (-34), 3) := by decide +kernel
theorem dX0_isIn_92 : decode cX0_isIn 92 = .ok (.iconst 1, 1) := by decide +kernel
theorem dX0_isIn_93 : decode cX0_isIn 93 = .ok (.ireturn, 1) := by decide +kernel
theorem dX2_isInSomeRange_0 : decode cX2_isInSomeRange 0 = .ok (.iconst 0, 1) := by decide +kernel
theorem dX2_isInSomeRange_1 : decode cX2_isInSomeRange 1 = .ok (.istore_n 2, 1) := by decide +kernel
theorem dX2_isInSomeRange_2 : decode cX2_isInSomeRange 2 = .ok (.iload_n 2, 1) := by decide +kernel
theorem dX2_isInSomeRange_3 : decode cX2_isInSomeRange 3 = .ok (.aload_n 0, 1) := by decide +kernel
theorem dX2_isInSomeRange_4 : decode cX2_isInSomeRange 4 = .ok (.getfield 47, 3) := by decide +kernel
theorem dX2_isInSomeRange_7 : decode cX2_isInSomeRange 7 = .ok (.if_icmp .ge 46, 3) := by decide +kernel
theorem dX2_isInSomeRange_10 : decode cX2_isInSomeRange 10 = .ok (.iload_n 2, 1) := by decide +kernel
theorem dX2_isInSomeRange_11 : decode cX2_isInSomeRange 11 = .ok (.bipush 12, 2) := by decide +kernel
theorem dX2_isInSomeRange_13 : decode cX2_isInSomeRange 13 = .ok (.if_icmp .ge 40, 3) := by decide +kernel
theorem dX2_isInSomeRange_16 : decode cX2_isInSomeRange 16 = .ok (.aload_n 0, 1) := by decide +kernel
theorem dX2_isInSomeRange_17 : decode cX2_isInSomeRange 17 = .ok (.getfield 40, 3) := by decide +kernel
theorem dX2_isInSomeRange_20 : decode cX2_isInSomeRange 20 = .ok (.iload_n 2, 1) := by decide +kernel
theorem dX2_isInSomeRange_21 : decode cX2_isInSomeRange 21 = .ok (.aaload, 1) := by decide +kernel
theorem dX2_isInSomeRange_22 : decode cX2_isInSomeRange 22 = .ok (.astore_n 3, 1) := by decide +kernel
theorem dX2_isInSomeRange_23 : decode cX2_isInSomeRange 23 = .ok (.aload_n 1, 1) := by decide +kernel
theorem dX2_isInSomeRange_24 : decode cX2_isInSomeRange 24 = .ok (.ifnull 23, 3) := by decide +kernel
theorem dX2_isInSomeRange_27 : decode cX2_isInSomeRange 27 = .ok (.aload_n 3, 1) := by decide +kernel
theorem dX2_isInSomeRange_28 : decode cX2_isInSomeRange 28 = .ok (.ifnull 19, 3) := by decide +kernel
theorem dX2_isInSomeRange_31 : decode cX2_isInSomeRange 31 = .ok (.aload_n 1, 1) := by decide +kernel
theorem dX2_isInSomeRange_32 : decode cX2_isInSomeRange 32 = .ok (.aload_n 3, 1) := by decide +kernel
theorem dX2_isInSomeRange_33 : decode cX2_isInSomeRange 33 = .ok (.aload_n 0, 1) := by decide +kernel
theorem dX2_isInSomeRange_34 : decode cX2_isInSomeRange 34 = .ok (.getfield 43, 3) := by decide +kernel
theorem dX2_isInSomeRange_37 : decode cX2_isInSomeRange 37 = .ok (.iload_n 2, 1) := by decide +kernel
theorem dX2_isInSomeRange_38 : decode cX2_isInSomeRange 38 = .ok (.iaload, 1) := by decide +kernel
theorem dX2_isInSomeRange_39 : decode cX2_isInSomeRange 39 = .ok (.invokevirtual 121, 3) := by decide +kernel
theorem dX2_isInSomeRange_42 : decode cX2_isInSomeRange 42 = .ok (.ifCond .eq 5, 3) := by decide +kernel
theorem dX2_isInSomeRange_45 : decode cX2_isInSomeRange 45 = .ok (.iconst 1, 1) := by decide +kernel
theorem dX2_isInSomeRange_46 : decode cX2_isInSomeRange 46 = .ok (.ireturn, 1) := by decide +kernel
theorem dX2_isInSomeRange_47 : decode cX2_isInSomeRange 47 = .ok (.iinc 2 1, 3) := by decide +kernel
theorem dX2_isInSomeRange_50 : decode cX2_isInSomeRange 50 = .ok (.goto (-48), 3) := by decide +kernel
theorem dX2_isInSomeRange_53 : decode cX2_isInSomeRange 53 = .ok (.iconst 0, 1) := by decide +kernel
theorem dX2_isInSomeRange_54 : decode cX2_isInSomeRange 54 = .ok (.ireturn, 1) := by decide +kernel
theorem dX2_judgeAnswers_0 : decode cX2_judgeAnswers 0 = .ok (.iconst 0, 1) := by decide +kernel
theorem dX2_judgeAnswers_1 : decode cX2_judgeAnswers 1 = .ok (.istore_n 2, 1) := by decide +kernel
theorem dX2_judgeAnswers_2 : decode cX2_judgeAnswers 2 = .ok (.iconst 1, 1) := by decide +kernel
theorem dX2_judgeAnswers_3 : decode cX2_judgeAnswers 3 = .ok (.istore_n 3, 1) := by decide +kernel
theorem dX2_judgeAnswers_4 : decode cX2_judgeAnswers 4 = .ok (.iconst 0, 1) := by decide +kernel
theorem dX2_judgeAnswers_5 : decode cX2_judgeAnswers 5 = .ok (.istore 4, 2) := by decide +kernel
theorem dX2_judgeAnswers_7 : decode cX2_judgeAnswers 7 = .ok (.iload 4, 2) := by decide +kernel
theorem dX2_judgeAnswers_9 : decode cX2_judgeAnswers 9 = .ok (.aload_n 0, 1) := by decide +kernel
theorem dX2_judgeAnswers_10 : decode cX2_judgeAnswers 10 = .ok (.getfield 37, 3) := by decide +kernel
theorem dX2_judgeAnswers_13 : decode cX2_judgeAnswers 13 = .ok (.if_icmp .ge 66, 3) := by decide +kernel
theorem dX2_judgeAnswers_16 : decode cX2_judgeAnswers 16 = .ok (.iload 4, 2) := by decide +kernel
theorem dX2_judgeAnswers_18 : decode cX2_judgeAnswers 18 = .ok (.bipush 16, 2) := by decide +kernel
theorem dX2_judgeAnswers_20 : decode cX2_judgeAnswers 20 = .ok (.if_icmp .ge 59, 3) := by decide +kernel
theorem dX2_judgeAnswers_23 : decode cX2_judgeAnswers 23 = .ok (.aload_n 0, 1) := by decide +kernel
theorem dX2_judgeAnswers_24 : decode cX2_judgeAnswers 24 = .ok (.getfield 27, 3) := by decide +kernel
theorem dX2_judgeAnswers_27 : decode cX2_judgeAnswers 27 = .ok (.iload 4, 2) := by decide +kernel
theorem dX2_judgeAnswers_29 : decode cX2_judgeAnswers 29 = .ok (.aaload, 1) := by decide +kernel
theorem dX2_judgeAnswers_30 : decode cX2_judgeAnswers 30 = .ok (.astore 5, 2) := by decide +kernel
theorem dX2_judgeAnswers_32 : decode cX2_judgeAnswers 32 = .ok (.aload 5, 2) := by decide +kernel
theorem dX2_judgeAnswers_34 : decode cX2_judgeAnswers 34 = .ok (.ifnull 39, 3) := by decide +kernel
theorem dX2_judgeAnswers_37 : decode cX2_judgeAnswers 37 = .ok (.aload 5, 2) := by decide +kernel
theorem dX2_judgeAnswers_39 : decode cX2_judgeAnswers 39 = .ok (.aload_n 1, 1) := by decide +kernel
theorem dX2_judgeAnswers_40 : decode cX2_judgeAnswers 40 = .ok (.invokevirtual 118, 3) := by decide +kernel
theorem dX2_judgeAnswers_43 : decode cX2_judgeAnswers 43 = .ok (.ifCond .eq 30, 3) := by decide +kernel
theorem dX2_judgeAnswers_46 : decode cX2_judgeAnswers 46 = .ok (.iinc 2 1, 3) := by decide +kernel
theorem dX2_judgeAnswers_49 : decode cX2_judgeAnswers 49 = .ok (.iload_n 3, 1) := by decide +kernel
theorem dX2_judgeAnswers_50 : decode cX2_judgeAnswers 50 = .ok (.ifCond .eq 21, 3) := by decide +kernel
theorem dX2_judgeAnswers_53 : decode cX2_judgeAnswers 53 = .ok (.aload_n 0, 1) := by decide +kernel
theorem dX2_judgeAnswers_54 : decode cX2_judgeAnswers 54 = .ok (.aload_n 0, 1) := by decide +kernel
theorem dX2_judgeAnswers_55 : decode cX2_judgeAnswers 55 = .ok (.getfield 33, 3) := by decide +kernel
theorem dX2_judgeAnswers_58 : decode cX2_judgeAnswers 58 = .ok (.iload 4, 2) := by decide +kernel
theorem dX2_judgeAnswers_60 : decode cX2_judgeAnswers 60 = .ok (.aaload, 1) := by decide +kernel
theorem dX2_judgeAnswers_61 : decode cX2_judgeAnswers 61 = .ok (.invokevirtual 96, 3) := by decide +kernel
theorem dX2_judgeAnswers_64 : decode cX2_judgeAnswers 64 = .ok (.ifCond .eq 7, 3) := by decide +kernel
theorem dX2_judgeAnswers_67 : decode cX2_judgeAnswers 67 = .ok (.iconst 1, 1) := by decide +kernel
theorem dX2_judgeAnswers_68 : decode cX2_judgeAnswers 68 = .ok (.goto 4, 3) := by decide +kernel
theorem dX2_judgeAnswers_71 : decode cX2_judgeAnswers 71 = .ok (.iconst 0, 1) := by decide +kernel
theorem dX2_judgeAnswers_72 : decode cX2_judgeAnswers 72 = .ok (.istore_n 3, 1) := by decide +kernel
theorem dX2_judgeAnswers_73 : decode cX2_judgeAnswers 73 = .ok (.iinc 4 1, 3) := by decide +kernel
theorem dX2_judgeAnswers_76 : decode cX2_judgeAnswers 76 = .ok (.goto (-69), 3) := by decide +kernel
theorem dX2_judgeAnswers_79 : decode cX2_judgeAnswers 79 = .ok (.iload_n 2, 1) := by decide +kernel
theorem dX2_judgeAnswers_80 : decode cX2_judgeAnswers 80 = .ok (.ifCond .ne 5, 3) := by decide +kernel
theorem dX2_judgeAnswers_83 : decode cX2_judgeAnswers 83 = .ok (.iconst 4, 1) := by decide +kernel
theorem dX2_judgeAnswers_84 : decode cX2_judgeAnswers 84 = .ok (.ireturn, 1) := by decide +kernel
theorem dX2_judgeAnswers_85 : decode cX2_judgeAnswers 85 = .ok (.iload_n 3, 1) := by decide +kernel
theorem dX2_judgeAnswers_86 : decode cX2_judgeAnswers 86 = .ok (.ifCond .eq 7, 3) := by decide +kernel
theorem dX2_judgeAnswers_89 : decode cX2_judgeAnswers 89 = .ok (.iconst 0, 1) := by decide +kernel
theorem dX2_judgeAnswers_90 : decode cX2_judgeAnswers 90 = .ok (.goto 4, 3) := by decide +kernel
theorem dX2_judgeAnswers_93 : decode cX2_judgeAnswers 93 = .ok (.iconst 5, 1) := by decide +kernel
theorem dX2_judgeAnswers_94 : decode cX2_judgeAnswers 94 = .ok (.ireturn, 1) := by decide +kernel
theorem dX2_judge_0 : decode cX2_judge 0 = .ok (.aload_n 1, 1) := by decide +kernel
theorem dX2_judge_1 : decode cX2_judge 1 = .ok (.getfield 64, 3) := by decide +kernel
theorem dX2_judge_4 : decode cX2_judge 4 = .ok (.ifCond .eq 13, 3) := by decide +kernel
theorem dX2_judge_7 : decode cX2_judge 7 = .ok (.aload_n 1, 1) := by decide +kernel
theorem dX2_judge_8 : decode cX2_judge 8 = .ok (.getfield 64, 3) := by decide +kernel
theorem dX2_judge_11 : decode cX2_judge 11 = .ok (.iconst 2, 1) := by decide +kernel
theorem dX2_judge_12 : decode cX2_judge 12 = .ok (.if_icmp .eq 5, 3) := by decide +kernel
theorem dX2_judge_15 : decode cX2_judge 15 = .ok (.iconst 1, 1) := by decide +kernel
theorem dX2_judge_16 : decode cX2_judge 16 = .ok (.ireturn, 1) := by decide +kernel
theorem dX2_judge_17 : decode cX2_judge 17 = .ok (.aload_n 1, 1) := by decide +kernel
theorem dX2_judge_18 : decode cX2_judge 18 = .ok (.invokevirtual 69, 3) := by decide +kernel
theorem dX2_judge_21 : decode cX2_judge 21 = .ok (.ifCond .eq 5, 3) := by decide +kernel
theorem dX2_judge_24 : decode cX2_judge 24 = .ok (.iconst 2, 1) := by decide +kernel
theorem dX2_judge_25 : decode cX2_judge 25 = .ok (.ireturn, 1) := by decide +kernel
theorem dX2_judge_26 : decode cX2_judge 26 = .ok (.aload_n 0, 1) := by decide +kernel
theorem dX2_judge_27 : decode cX2_judge 27 = .ok (.aload_n 1, 1) := by decide +kernel
theorem dX2_judge_28 : decode cX2_judge 28 = .ok (.getfield 73, 3) := by decide +kernel
theorem dX2_judge_31 : decode cX2_judge 31 = .ok (.invokevirtual 77, 3) := by decide +kernel
theorem dX2_judge_34 : decode cX2_judge 34 = .ok (.ifCond .ne 5, 3) := by decide +kernel
theorem dX2_judge_37 : decode cX2_judge 37 = .ok (.iconst 3, 1) := by decide +kernel
theorem dX2_judge_38 : decode cX2_judge 38 = .ok (.ireturn, 1) := by decide +kernel
theorem dX2_judge_39 : decode cX2_judge 39 = .ok (.aload_n 1, 1) := by decide +kernel
theorem dX2_judge_40 : decode cX2_judge 40 = .ok (.getfield 73, 3) := by decide +kernel
theorem dX2_judge_43 : decode cX2_judge 43 = .ok (.invokevirtual 81, 3) := by decide +kernel
theorem dX2_judge_46 : decode cX2_judge 46 = .ok (.ifCond .eq 15, 3) := by decide +kernel
theorem dX2_judge_49 : decode cX2_judge 49 = .ok (.aload_n 0, 1) := by decide +kernel
theorem dX2_judge_50 : decode cX2_judge 50 = .ok (.aload_n 1, 1) := by decide +kernel
theorem dX2_judge_51 : decode cX2_judge 51 = .ok (.getfield 73, 3) := by decide +kernel
theorem dX2_judge_54 : decode cX2_judge 54 = .ok (.getfield 84, 3) := by decide +kernel
theorem dX2_judge_57 : decode cX2_judge 57 = .ok (.invokevirtual 88, 3) := by decide +kernel
theorem dX2_judge_60 : decode cX2_judge 60 = .ok (.ireturn, 1) := by decide +kernel
theorem dX2_judge_61 : decode cX2_judge 61 = .ok (.aload_n 0, 1) := by decide +kernel
theorem dX2_judge_62 : decode cX2_judge 62 = .ok (.aload_n 1, 1) := by decide +kernel
theorem dX2_judge_63 : decode cX2_judge 63 = .ok (.getfield 73, 3) := by decide +kernel
theorem dX2_judge_66 : decode cX2_judge 66 = .ok (.getfield 92, 3) := by decide +kernel
theorem dX2_judge_69 : decode cX2_judge 69 = .ok (.invokevirtual 96, 3) := by decide +kernel
theorem dX2_judge_72 : decode cX2_judge 72 = .ok (.ifCond .eq 7, 3) := by decide +kernel
theorem dX2_judge_75 : decode cX2_judge 75 = .ok (.iconst 0, 1) := by decide +kernel
theorem dX2_judge_76 : decode cX2_judge 76 = .ok (.goto 4, 3) := by decide +kernel
theorem dX2_judge_79 : decode cX2_judge 79 = .ok (.iconst 5, 1) := by decide +kernel
theorem dX2_judge_80 : decode cX2_judge 80 = .ok (.ireturn, 1) := by decide +kernel
theorem dX8_pass_0 : decode cX8_pass 0 = .ok (.aload_n 0, 1) := by decide +kernel
theorem dX8_pass_1 : decode cX8_pass 1 = .ok (.iload_n 1, 1) := by decide +kernel
theorem dX8_pass_2 : decode cX8_pass 2 = .ok (.invokevirtual 69, 3) := by decide +kernel
theorem dX8_pass_5 : decode cX8_pass 5 = .ok (.astore_n 2, 1) := by decide +kernel
theorem dX8_pass_6 : decode cX8_pass 6 = .ok (.aload_n 2, 1) := by decide +kernel
theorem dX8_pass_7 : decode cX8_pass 7 = .ok (.ifnonnull 8, 3) := by decide +kernel
theorem dX8_pass_10 : decode cX8_pass 10 = .ok (.bipush (-2), 2) := by decide +kernel
theorem dX8_pass_12 : decode cX8_pass 12 = .ok (.goto 11, 3) := by decide +kernel
theorem dX8_pass_15 : decode cX8_pass 15 = .ok (.aload_n 0, 1) := by decide +kernel
theorem dX8_pass_16 : decode cX8_pass 16 = .ok (.getfield 49, 3) := by decide +kernel
theorem dX8_pass_19 : decode cX8_pass 19 = .ok (.aload_n 2, 1) := by decide +kernel
theorem dX8_pass_20 : decode cX8_pass 20 = .ok (.invokevirtual 146, 3) := by decide +kernel
theorem dX8_pass_23 : decode cX8_pass 23 = .ok (.ireturn, 1) := by decide +kernel
theorem dX9_init_0 : decode cX9_init 0 = .ok (.aload_n 0, 1) := by decide +kernel
theorem dX9_init_1 : decode cX9_init 1 = .ok (.invokespecial 1, 3) := by decide +kernel
theorem dX9_init_4 : decode cX9_init 4 = .ok (.aload_n 0, 1) := by decide +kernel
theorem dX9_init_5 : decode cX9_init 5 = .ok (.sipush 300, 3) := by decide +kernel
theorem dX9_init_8 : decode cX9_init 8 = .ok (.newarray .byte, 2) := by decide +kernel
theorem dX9_init_10 : decode cX9_init 10 = .ok (.putfield 7, 3) := by decide +kernel
theorem dX9_init_13 : decode cX9_init 13 = .ok (.aload_n 0, 1) := by decide +kernel
theorem dX9_init_14 : decode cX9_init 14 = .ok (.iconst 5, 1) := by decide +kernel
theorem dX9_init_15 : decode cX9_init 15 = .ok (.newarray .boolean, 2) := by decide +kernel
theorem dX9_init_17 : decode cX9_init 17 = .ok (.putfield 13, 3) := by decide +kernel
theorem dX9_init_20 : decode cX9_init 20 = .ok (.aload_n 0, 1) := by decide +kernel
theorem dX9_init_21 : decode cX9_init 21 = .ok (.iconst 5, 1) := by decide +kernel
theorem dX9_init_22 : decode cX9_init 22 = .ok (.newarray .int, 2) := by decide +kernel
theorem dX9_init_24 : decode cX9_init 24 = .ok (.putfield 17, 3) := by decide +kernel
theorem dX9_init_27 : decode cX9_init 27 = .ok (.aload_n 0, 1) := by decide +kernel
theorem dX9_init_28 : decode cX9_init 28 = .ok (.iconst 5, 1) := by decide +kernel
theorem dX9_init_29 : decode cX9_init 29 = .ok (.newarray .int, 2) := by decide +kernel
theorem dX9_init_31 : decode cX9_init 31 = .ok (.putfield 21, 3) := by decide +kernel
theorem dX9_init_34 : decode cX9_init 34 = .ok (.aload_n 0, 1) := by decide +kernel
theorem dX9_init_35 : decode cX9_init 35 = .ok (.iconst 5, 1) := by decide +kernel
theorem dX9_init_36 : decode cX9_init 36 = .ok (.newarray .int, 2) := by decide +kernel
theorem dX9_init_38 : decode cX9_init 38 = .ok (.putfield 24, 3) := by decide +kernel
theorem dX9_init_41 : decode cX9_init 41 = .ok (.aload_n 0, 1) := by decide +kernel
theorem dX9_init_42 : decode cX9_init 42 = .ok (.bipush 40, 2) := by decide +kernel
theorem dX9_init_44 : decode cX9_init 44 = .ok (.newarray .int, 2) := by decide +kernel
theorem dX9_init_46 : decode cX9_init 46 = .ok (.putfield 27, 3) := by decide +kernel
theorem dX9_init_49 : decode cX9_init 49 = .ok (.aload_n 0, 1) := by decide +kernel
theorem dX9_init_50 : decode cX9_init 50 = .ok (.iconst 5, 1) := by decide +kernel
theorem dX9_init_51 : decode cX9_init 51 = .ok (.newarray .boolean, 2) := by decide +kernel
theorem dX9_init_53 : decode cX9_init 53 = .ok (.putfield 30, 3) := by decide +kernel
theorem dX9_init_56 : decode cX9_init 56 = .ok (.aload_n 0, 1) := by decide +kernel
theorem dX9_init_57 : decode cX9_init 57 = .ok (.iconst 5, 1) := by decide +kernel
theorem dX9_init_58 : decode cX9_init 58 = .ok (.newarray .boolean, 2) := by decide +kernel
theorem dX9_init_60 : decode cX9_init 60 = .ok (.putfield 33, 3) := by decide +kernel
theorem dX9_init_63 : decode cX9_init 63 = .ok (.aload_n 0, 1) := by decide +kernel
theorem dX9_init_64 : decode cX9_init 64 = .ok (.ldc 36, 2) := by decide +kernel
theorem dX9_init_66 : decode cX9_init 66 = .ok (.newarray .byte, 2) := by decide +kernel
theorem dX9_init_68 : decode cX9_init 68 = .ok (.putfield 37, 3) := by decide +kernel
theorem dX9_init_71 : decode cX9_init 71 = .ok (.aload_n 0, 1) := by decide +kernel
theorem dX9_init_72 : decode cX9_init 72 = .ok (.bipush 30, 2) := by decide +kernel
theorem dX9_init_74 : decode cX9_init 74 = .ok (.newarray .int, 2) := by decide +kernel
theorem dX9_init_76 : decode cX9_init 76 = .ok (.putfield 40, 3) := by decide +kernel
theorem dX9_init_79 : decode cX9_init 79 = .ok (.aload_n 0, 1) := by decide +kernel
theorem dX9_init_80 : decode cX9_init 80 = .ok (.sipush 300, 3) := by decide +kernel
theorem dX9_init_83 : decode cX9_init 83 = .ok (.newarray .byte, 2) := by decide +kernel
theorem dX9_init_85 : decode cX9_init 85 = .ok (.putfield 43, 3) := by decide +kernel
theorem dX9_init_88 : decode cX9_init 88 = .ok (.aload_n 0, 1) := by decide +kernel
theorem dX9_init_89 : decode cX9_init 89 = .ok (.sipush 300, 3) := by decide +kernel
theorem dX9_init_92 : decode cX9_init 92 = .ok (.newarray .byte, 2) := by decide +kernel
theorem dX9_init_94 : decode cX9_init 94 = .ok (.putfield 46, 3) := by decide +kernel
theorem dX9_init_97 : decode cX9_init 97 = .ok (.aload_n 0, 1) := by decide +kernel
theorem dX9_init_98 : decode cX9_init 98 = .ok (.bipush 8, 2) := by decide +kernel
theorem dX9_init_100 : decode cX9_init 100 = .ok (.newarray .int, 2) := by decide +kernel
theorem dX9_init_102 : decode cX9_init 102 = .ok (.putfield 49, 3) := by decide +kernel
theorem dX9_init_105 : decode cX9_init 105 = .ok (.aload_n 0, 1) := by decide +kernel
theorem dX9_init_106 : decode cX9_init 106 = .ok (.sipush 400, 3) := by decide +kernel
theorem dX9_init_109 : decode cX9_init 109 = .ok (.newarray .byte, 2) := by decide +kernel
theorem dX9_init_111 : decode cX9_init 111 = .ok (.putfield 52, 3) := by decide +kernel
theorem dX9_init_114 : decode cX9_init 114 = .ok (.aload_n 0, 1) := by decide +kernel
theorem dX9_init_115 : decode cX9_init 115 = .ok (.sipush 3600, 3) := by decide +kernel
theorem dX9_init_118 : decode cX9_init 118 = .ok (.newarray .byte, 2) := by decide +kernel
theorem dX9_init_120 : decode cX9_init 120 = .ok (.putfield 55, 3) := by decide +kernel
theorem dX9_init_123 : decode cX9_init 123 = .ok (.aload_n 0, 1) := by decide +kernel
theorem dX9_init_124 : decode cX9_init 124 = .ok (.bipush 12, 2) := by decide +kernel
theorem dX9_init_126 : decode cX9_init 126 = .ok (.newarray .int, 2) := by decide +kernel
theorem dX9_init_128 : decode cX9_init 128 = .ok (.putfield 58, 3) := by decide +kernel
theorem dX9_init_131 : decode cX9_init 131 = .ok (.aload_n 0, 1) := by decide +kernel
theorem dX9_init_132 : decode cX9_init 132 = .ok (.bipush 12, 2) := by decide +kernel
theorem dX9_init_134 : decode cX9_init 134 = .ok (.newarray .int, 2) := by decide +kernel
theorem dX9_init_136 : decode cX9_init 136 = .ok (.putfield 61, 3) := by decide +kernel
theorem dX9_init_139 : decode cX9_init 139 = .ok (.aload_n 0, 1) := by decide +kernel
theorem dX9_init_140 : decode cX9_init 140 = .ok (.bipush 96, 2) := by decide +kernel
theorem dX9_init_142 : decode cX9_init 142 = .ok (.newarray .int, 2) := by decide +kernel
theorem dX9_init_144 : decode cX9_init 144 = .ok (.putfield 64, 3) := by decide +kernel
theorem dX9_init_147 : decode cX9_init 147 = .ok (.aload_n 0, 1) := by decide +kernel
theorem dX9_init_148 : decode cX9_init 148 = .ok (.bipush 12, 2) := by decide +kernel
theorem dX9_init_150 : decode cX9_init 150 = .ok (.newarray .boolean, 2) := by decide +kernel
theorem dX9_init_152 : decode cX9_init 152 = .ok (.putfield 67, 3) := by decide +kernel
theorem dX9_init_155 : decode cX9_init 155 = .ok (.aload_n 0, 1) := by decide +kernel
theorem dX9_init_156 : decode cX9_init 156 = .ok (.sipush 4800, 3) := by decide +kernel
theorem dX9_init_159 : decode cX9_init 159 = .ok (.newarray .byte, 2) := by decide +kernel
theorem dX9_init_161 : decode cX9_init 161 = .ok (.putfield 70, 3) := by decide +kernel
theorem dX9_init_164 : decode cX9_init 164 = .ok (.aload_n 0, 1) := by decide +kernel
theorem dX9_init_165 : decode cX9_init 165 = .ok (.bipush 16, 2) := by decide +kernel
theorem dX9_init_167 : decode cX9_init 167 = .ok (.newarray .int, 2) := by decide +kernel
theorem dX9_init_169 : decode cX9_init 169 = .ok (.putfield 73, 3) := by decide +kernel
theorem dX9_init_172 : decode cX9_init 172 = .ok (.aload_n 0, 1) := by decide +kernel
theorem dX9_init_173 : decode cX9_init 173 = .ok (.bipush 16, 2) := by decide +kernel
theorem dX9_init_175 : decode cX9_init 175 = .ok (.newarray .int, 2) := by decide +kernel
theorem dX9_init_177 : decode cX9_init 177 = .ok (.putfield 76, 3) := by decide +kernel
theorem dX9_init_180 : decode cX9_init 180 = .ok (.aload_n 0, 1) := by decide +kernel
theorem dX9_init_181 : decode cX9_init 181 = .ok (.bipush 64, 2) := by decide +kernel
theorem dX9_init_183 : decode cX9_init 183 = .ok (.newarray .int, 2) := by decide +kernel
theorem dX9_init_185 : decode cX9_init 185 = .ok (.putfield 79, 3) := by decide +kernel
theorem dX9_init_188 : decode cX9_init 188 = .ok (.aload_n 0, 1) := by decide +kernel
theorem dX9_init_189 : decode cX9_init 189 = .ok (.bipush 12, 2) := by decide +kernel
theorem dX9_init_191 : decode cX9_init 191 = .ok (.newarray .int, 2) := by decide +kernel
theorem dX9_init_193 : decode cX9_init 193 = .ok (.putfield 82, 3) := by decide +kernel
theorem dX9_init_196 : decode cX9_init 196 = .ok (.aload_n 0, 1) := by decide +kernel
theorem dX9_init_197 : decode cX9_init 197 = .ok (.bipush 48, 2) := by decide +kernel
theorem dX9_init_199 : decode cX9_init 199 = .ok (.newarray .int, 2) := by decide +kernel
theorem dX9_init_201 : decode cX9_init 201 = .ok (.putfield 85, 3) := by decide +kernel
theorem dX9_init_204 : decode cX9_init 204 = .ok (.aload_n 0, 1) := by decide +kernel
theorem dX9_init_205 : decode cX9_init 205 = .ok (.bipush 12, 2) := by decide +kernel
theorem dX9_init_207 : decode cX9_init 207 = .ok (.newarray .int, 2) := by decide +kernel
theorem dX9_init_209 : decode cX9_init 209 = .ok (.putfield 88, 3) := by decide +kernel
theorem dX9_init_212 : decode cX9_init 212 = .ok (.return_, 1) := by decide +kernel
def f_X8_resolve_14  (x0 : Option Nat) (x1 : Int32) (x2 : Int32) (x3 : Int32) (x4 : Int32) (x5 : Int32) : gM Int32 := gb (nn 7 x0) fun _ => gb (f_X8_hearHost x0) fun v1 => if v1 = 0 then (gb (rR 7 3 x0) fun v2 => gb (nn 2 v2) fun _ => gb (f_X3_isName v2) fun v3 => if v3 = 0 then (gp (-2)) else (gb (rR 7 6 x0) fun v4 => gb (rR 7 3 x0) fun v5 => gb (rR 2 1 v5) fun v6 => gb (nn 1 v4) fun _ => gb (f_X2_addAnswer v4 v6 x1 x2 x3 x4 x5) fun v7 => gp v7)) else (gp v1)
def f_X8_resolve  (a0 : Option Nat) (a1 : Int32) (a2 : Int32) (a3 : Int32) (a4 : Int32) (a5 : Int32) : gM Int32 := if a1 = 4 then (f_X8_resolve_14  a0 a1 a2 a3 a4 a5) else (if a1 = 6 then (f_X8_resolve_14  a0 a1 a2 a3 a4 a5) else (gp (-2)))
section S_X8_resolve
variable {G : gX} {p : Program} {l : Launch} {e : Env} {s : State} {m : MethodId} {args : Array Value} {below : List Frame} {meth : Method} {c : Code} {mc ms : Nat} {y : Int32 × gS}
set_option maxHeartbeats 4000000 in
set_option maxRecDepth 100000 in
theorem w_X8_resolve_14 (C : gC G p s m args meth c cX8_resolve 7 RX8) (hr : meth.sig.returnType = (some .int))  (x0 : Option Nat) (x1 : Int32) (x2 : Int32) (x3 : Int32) (x4 : Int32) (x5 : Int32) : gJ G p l e 10 233 mc ms s m args below meth c gri y 7 14 [(0, va_rf x0), (1, .int x1), (2, .int x2), (3, .int x3), (4, .int x4), (5, .int x5)] [] (f_X8_resolve_14  x0 x1 x2 x3 x4 x5) := by
  have hx := C.1
  have hb := C.2.1
  intro σ H locs cells slots ls hf I hl
  unfold f_X8_resolve_14 at hf
  refine gw_aload_n hx hb dX8_resolve_14 rfl (lv_at hl 0 rfl) ?_
  refine gw_callV (rest := []) C I hl.1 gcls_7 (m_X8_hearHost G l x0) gl_RX8_121 gn_X8_hearHost ⟨Nat.le_of_ble_eq_true rfl, Nat.le_of_ble_eq_true rfl⟩ rfl (gc4 (Nat.le_of_ble_eq_true rfl)) rfl dX8_resolve_15 hf (fun v1 σ H locs cells slots I hf => ?_)
  refine W.eq (g2 := F0 m 18 ls [.int v1]) rfl ?_
  refine lv_istore (lv' := [(6, .int v1), (0, va_rf x0), (1, .int x1), (2, .int x2), (3, .int x3), (4, .int x4), (5, .int x5)]) hx hb dX8_resolve_18 hl (by decide) rfl (fun ls hl => ?_)
  refine lv_iload hx hb dX8_resolve_20 (lv_at hl 0 rfl) ?_
  refine lv_if_eq (tgt := 28) hx hb dX8_resolve_22 (by decide) (fun hq => ?_) (fun hq => ?_)
  · have hf := gift hq hf
    refine gw_aload_n hx hb dX8_resolve_28 rfl (lv_at hl 1 rfl) ?_
    refine gw_getr (k := 3) C I gcls_7 (by decide) rfl kw_70 dX8_resolve_29 hf (fun v2 hf => ?_)
    refine gw_callV (rest := []) C I hl.1 gcls_2 (m_X3_isName G l v2) gl_RX8_124 gn_X3_isName ⟨Nat.le_of_ble_eq_true rfl, Nat.le_of_ble_eq_true rfl⟩ rfl (gc4 (Nat.le_of_ble_eq_true rfl)) rfl dX8_resolve_32 hf (fun v3 σ H locs cells slots I hf => ?_)
    refine W.eq (g2 := F0 m 35 ls [.int v3]) rfl ?_
    refine lv_if_ne (tgt := 41) hx hb dX8_resolve_35 (by decide) (fun hq => ?_) (fun hq => ?_)
    · have hf := giff hq hf
      refine gw_aload_n hx hb dX8_resolve_41 rfl (lv_at hl 1 rfl) ?_
      refine gw_getr (k := 6) C I gcls_7 (by decide) rfl kw_85 dX8_resolve_42 hf (fun v4 hf => ?_)
      refine gw_aload_n hx hb dX8_resolve_45 rfl (lv_at hl 1 rfl) ?_
      refine gw_getr (k := 3) C I gcls_7 (by decide) rfl kw_70 dX8_resolve_46 hf (fun v5 hf => ?_)
      refine gw_getr (k := 1) C I gcls_2 (by decide) rfl kw_155 dX8_resolve_49 hf (fun v6 hf => ?_)
      refine lv_iload_n hx hb dX8_resolve_52 rfl (lv_at hl 2 rfl) ?_
      refine lv_iload_n hx hb dX8_resolve_53 rfl (lv_at hl 3 rfl) ?_
      refine lv_iload_n hx hb dX8_resolve_54 rfl (lv_at hl 4 rfl) ?_
      refine lv_iload hx hb dX8_resolve_55 (lv_at hl 5 rfl) ?_
      refine lv_iload hx hb dX8_resolve_57 (lv_at hl 6 rfl) ?_
      refine gw_callV (rest := []) C I hl.1 gcls_1 (m_X2_addAnswer G l v4 v6 x1 x2 x3 x4 x5) gl_RX8_135 gn_X2_addAnswer ⟨Nat.le_of_ble_eq_true rfl, Nat.le_of_ble_eq_true rfl⟩ rfl (gc4 (Nat.le_of_ble_eq_true rfl)) rfl dX8_resolve_59 hf (fun v7 σ H locs cells slots I hf => ?_)
      refine W.eq (g2 := F0 m 62 ls [.int v7]) rfl ?_
      exact gw_iret C I hr dX8_resolve_62 hf
    · have hf := gift hq hf
      refine lv_bipush (v := (-2)) hx hb dX8_resolve_38 kc_b_m2 ?_
      exact gw_iret C I hr dX8_resolve_40 hf
  · have hf := giff hq hf
    refine lv_iload hx hb dX8_resolve_25 (lv_at hl 0 rfl) ?_
    exact gw_iret C I hr dX8_resolve_27 hf
set_option maxHeartbeats 4000000 in
set_option maxRecDepth 100000 in
theorem w_X8_resolve_0 (C : gC G p s m args meth c cX8_resolve 7 RX8) (hr : meth.sig.returnType = (some .int))  (a0 : Option Nat) (a1 : Int32) (a2 : Int32) (a3 : Int32) (a4 : Int32) (a5 : Int32) : gJ G p l e 10 233 mc ms s m args below meth c gri y 7 0 [(0, va_rf a0), (1, .int a1), (2, .int a2), (3, .int a3), (4, .int a4), (5, .int a5)] [] (f_X8_resolve  a0 a1 a2 a3 a4 a5) := by
  have hx := C.1
  have hb := C.2.1
  intro σ H locs cells slots ls hf I hl
  unfold f_X8_resolve at hf
  refine lv_iload_n hx hb dX8_resolve_0 rfl (lv_at hl 1 rfl) ?_
  refine lv_iconst (v := 4) hx hb dX8_resolve_1 kc_i_4 ?_
  refine lv_icmp_eq (tgt := 14) hx hb dX8_resolve_2 (by decide) (fun hq => ?_) (fun hq => ?_)
  · have hf := gift hq hf
    exact w_X8_resolve_14 C hr  a0 a1 a2 a3 a4 a5 _ _ _ _ _ _ hf I (lv_sub hl [0, 1, 2, 3, 4, 5] rfl)
  · have hf := giff hq hf
    refine lv_iload_n hx hb dX8_resolve_5 rfl (lv_at hl 1 rfl) ?_
    refine lv_bipush (v := 6) hx hb dX8_resolve_6 kc_b_6 ?_
    refine lv_icmp_eq (tgt := 14) hx hb dX8_resolve_8 (by decide) (fun hq => ?_) (fun hq => ?_)
    · have hf := gift hq hf
      exact w_X8_resolve_14 C hr  a0 a1 a2 a3 a4 a5 _ _ _ _ _ _ hf I (lv_sub hl [0, 1, 2, 3, 4, 5] rfl)
    · have hf := giff hq hf
      refine lv_bipush (v := (-2)) hx hb dX8_resolve_11 kc_b_m2 ?_
      exact gw_iret C I hr dX8_resolve_13 hf
end S_X8_resolve
theorem m_X8_resolve (G : gX) (l : Launch) (a0 : Option Nat) (a1 : Int32) (a2 : Int32) (a3 : Int32) (a4 : Int32) (a5 : Int32) : gMet G l yX8_resolve cX8_resolve 7 (some .int) 10 233 [va_rf a0, .int a1, .int a2, .int a3, .int a4, .int a5] gri (f_X8_resolve a0 a1 a2 a3 a4 a5) := by
  refine gMet_of (by decide) ?_
  intro σ y p e s m below meth c mc ms hf C hr hnm I
  obtain ⟨ls, e1, hl⟩ := gentry m [va_rf a0, .int a1, .int a2, .int a3, .int a4, .int a5] 7 [(0, va_rf a0), (1, .int a1), (2, .int a2), (3, .int a3), (4, .int a4), (5, .int a5)] (by simp [lg_sl, grc, gcat_i, gcat_l]) (by simp [lv_args, grc, gcat_i, gcat_l])
  rw [e1]
  exact w_X8_resolve_0 C hr a0 a1 a2 a3 a4 a5 _ _ _ _ _ _ hf I hl
def f_X2_addRange  (a0 : Option Nat) (a1 : Int32) (a2 : Int32) (a3 : Int32) (a4 : Int32) (a5 : Int32) (a6 : Int32) : gM Int32 := gb (rI 1 8 a0) fun v1 => if v1 < 12 then (gb (nO 0) fun v2 => gb (nn 0 v2) fun _ => gb (f_X0_init v2) fun _ => gb (nn 0 v2) fun _ => gb (f_X0_setTo v2 a1 a2 a3 a4 a5) fun _ => gb (rR 1 6 a0) fun v3 => gb (rI 1 8 a0) fun v4 => gb (sR 3 0 v3 v4 v2) fun _ => gb (rR 1 7 a0) fun v5 => gb (rI 1 8 a0) fun v6 => gb (sI 1 v5 v6 a6) fun _ => gb (rI 1 8 a0) fun v7 => gb (wI 1 8 a0 (v7 + 1)) fun _ => gb (rI 1 8 a0) fun v8 => gp v8) else (gp (-3))
section S_X2_addRange
variable {G : gX} {p : Program} {l : Launch} {e : Env} {s : State} {m : MethodId} {args : Array Value} {below : List Frame} {meth : Method} {c : Code} {mc ms : Nat} {y : Int32 × gS}
set_option maxHeartbeats 4000000 in
set_option maxRecDepth 100000 in
theorem w_X2_addRange_0 (C : gC G p s m args meth c cX2_addRange 8 RX2) (hr : meth.sig.returnType = (some .int))  (a0 : Option Nat) (a1 : Int32) (a2 : Int32) (a3 : Int32) (a4 : Int32) (a5 : Int32) (a6 : Int32) : gJ G p l e 2 40 mc ms s m args below meth c gri y 8 0 [(0, va_rf a0), (1, .int a1), (2, .int a2), (3, .int a3), (4, .int a4), (5, .int a5), (6, .int a6)] [] (f_X2_addRange  a0 a1 a2 a3 a4 a5 a6) := by
  have hx := C.1
  have hb := C.2.1
  intro σ H locs cells slots ls hf I hl
  unfold f_X2_addRange at hf
  refine gw_aload_n hx hb dX2_addRange_0 rfl (lv_at hl 0 rfl) ?_
  refine gw_geti (k := 8) C I gcls_1 (by decide) rfl kw_44 dX2_addRange_1 hf (fun v1 hf => ?_)
  refine lv_bipush (v := 12) hx hb dX2_addRange_4 kc_b_12 ?_
  refine lv_icmp_lt (tgt := 12) hx hb dX2_addRange_6 (by decide) (fun hq => ?_) (fun hq => ?_)
  · have hf := gift hq hf
    refine gw_new C I gcls_0 gdf_0 kw_39 dX2_addRange_12 hf (fun v2 σ H locs cells slots I hf => ?_)
    refine lv_dup hx hb dX2_addRange_15 (grc _) ?_
    refine gw_callN (rest := [va_rf v2]) (ci := 0) C I hl.1 (m_X0_init G l v2) (host := "UrlGate") (by decide) ⟨kw_11, kw_12⟩ ⟨by decide, by decide, rfl⟩ ⟨rfl, kw_13⟩ ⟨Nat.le_of_ble_eq_true rfl, Nat.le_of_ble_eq_true rfl⟩ rfl (gc4 (Nat.le_of_ble_eq_true rfl)) rfl dX2_addRange_16 hf (fun _ σ H locs cells slots I hf => ?_)
    refine W.eq (g2 := F0 m 19 ls [va_rf v2]) rfl ?_
    refine gw_astore (lv' := [(7, va_rf v2), (0, va_rf a0), (1, .int a1), (2, .int a2), (3, .int a3), (4, .int a4), (5, .int a5), (6, .int a6)]) hx hb dX2_addRange_19 hl (by decide) rfl (fun ls hl => ?_)
    refine gw_aload hx hb dX2_addRange_21 (lv_at hl 0 rfl) ?_
    refine lv_iload_n hx hb dX2_addRange_23 rfl (lv_at hl 2 rfl) ?_
    refine lv_iload_n hx hb dX2_addRange_24 rfl (lv_at hl 3 rfl) ?_
    refine lv_iload_n hx hb dX2_addRange_25 rfl (lv_at hl 4 rfl) ?_
    refine lv_iload hx hb dX2_addRange_26 (lv_at hl 5 rfl) ?_
    refine lv_iload hx hb dX2_addRange_28 (lv_at hl 6 rfl) ?_
    refine gw_callV (rest := []) C I hl.1 gcls_0 (m_X0_setTo G l v2 a1 a2 a3 a4 a5) gl_RX2_60 gn_X0_setTo ⟨Nat.le_of_ble_eq_true rfl, Nat.le_of_ble_eq_true rfl⟩ rfl (gc4 (Nat.le_of_ble_eq_true rfl)) rfl dX2_addRange_30 hf (fun _ σ H locs cells slots I hf => ?_)
    refine W.eq (g2 := F0 m 33 ls []) rfl ?_
    refine gw_aload_n hx hb dX2_addRange_33 rfl (lv_at hl 1 rfl) ?_
    refine gw_getr (k := 6) C I gcls_1 (by decide) rfl kw_42 dX2_addRange_34 hf (fun v3 hf => ?_)
    refine gw_aload_n hx hb dX2_addRange_37 rfl (lv_at hl 1 rfl) ?_
    refine gw_geti (k := 8) C I gcls_1 (by decide) rfl kw_44 dX2_addRange_38 hf (fun v4 hf => ?_)
    refine gw_aload hx hb dX2_addRange_41 (lv_at hl 0 rfl) ?_
    refine gw_aast (t := 3) C I gcls_0 (by decide) rfl dX2_addRange_43 hf (fun σ H locs I hf => ?_)
    refine gw_aload_n hx hb dX2_addRange_44 rfl (lv_at hl 1 rfl) ?_
    refine gw_getr (k := 7) C I gcls_1 (by decide) rfl kw_43 dX2_addRange_45 hf (fun v5 hf => ?_)
    refine gw_aload_n hx hb dX2_addRange_48 rfl (lv_at hl 1 rfl) ?_
    refine gw_geti (k := 8) C I gcls_1 (by decide) rfl kw_44 dX2_addRange_49 hf (fun v6 hf => ?_)
    refine lv_iload hx hb dX2_addRange_52 (lv_at hl 7 rfl) ?_
    refine gw_iast C I dX2_addRange_54 hf (fun σ H locs I hf => ?_)
    refine gw_aload_n hx hb dX2_addRange_55 rfl (lv_at hl 1 rfl) ?_
    refine lv_dup hx hb dX2_addRange_56 (grc _) ?_
    refine gw_geti (k := 8) C I gcls_1 (by decide) rfl kw_44 dX2_addRange_57 hf (fun v7 hf => ?_)
    refine lv_iconst (v := 1) hx hb dX2_addRange_60 kc_i_1 ?_
    refine lv_iadd hx hb dX2_addRange_61 ?_
    refine gw_puti (k := 8) C I gcls_1 (by decide) rfl kw_44 (Or.inl rfl) (by decide +kernel) dX2_addRange_62 hf (fun σ H locs I hf => ?_)
    refine gw_aload_n hx hb dX2_addRange_65 rfl (lv_at hl 1 rfl) ?_
    refine gw_geti (k := 8) C I gcls_1 (by decide) rfl kw_44 dX2_addRange_66 hf (fun v8 hf => ?_)
    exact gw_iret C I hr dX2_addRange_69 hf
  · have hf := giff hq hf
    refine lv_bipush (v := (-3)) hx hb dX2_addRange_9 kc_b_m3 ?_
    exact gw_iret C I hr dX2_addRange_11 hf
end S_X2_addRange
theorem m_X2_addRange (G : gX) (l : Launch) (a0 : Option Nat) (a1 : Int32) (a2 : Int32) (a3 : Int32) (a4 : Int32) (a5 : Int32) (a6 : Int32) : gMet G l yX2_addRange cX2_addRange 8 (some .int) 2 40 [va_rf a0, .int a1, .int a2, .int a3, .int a4, .int a5, .int a6] gri (f_X2_addRange a0 a1 a2 a3 a4 a5 a6) := by
  refine gMet_of (by decide) ?_
  intro σ y p e s m below meth c mc ms hf C hr hnm I
  obtain ⟨ls, e1, hl⟩ := gentry m [va_rf a0, .int a1, .int a2, .int a3, .int a4, .int a5, .int a6] 8 [(0, va_rf a0), (1, .int a1), (2, .int a2), (3, .int a3), (4, .int a4), (5, .int a5), (6, .int a6)] (by simp [lg_sl, grc, gcat_i, gcat_l]) (by simp [lv_args, grc, gcat_i, gcat_l])
  rw [e1]
  exact w_X2_addRange_0 C hr a0 a1 a2 a3 a4 a5 a6 _ _ _ _ _ _ hf I hl
def f_X8_range_31  (x0 : Option Nat) (x1 : Int32) (x2 : Int32) (x3 : Int32) (x4 : Int32) (x5 : Int32) (x6 : Int32) (s0 : Int32) (s1 : Int32) : gM Int32 := if s0 ≤ s1 then (gb (rR 7 6 x0) fun v1 => gb (nn 1 v1) fun _ => gb (f_X2_addRange v1 x1 x2 x3 x4 x5 x6) fun v2 => gp v2) else (gp (-2))
def f_X8_range_11  (x0 : Option Nat) (x1 : Int32) (x2 : Int32) (x3 : Int32) (x4 : Int32) (x5 : Int32) (x6 : Int32) : gM Int32 := if x6 < 0 then (gp (-2)) else (if x1 = 4 then (f_X8_range_31  x0 x1 x2 x3 x4 x5 x6 x6 32) else (f_X8_range_31  x0 x1 x2 x3 x4 x5 x6 x6 128))
def f_X8_range  (a0 : Option Nat) (a1 : Int32) (a2 : Int32) (a3 : Int32) (a4 : Int32) (a5 : Int32) (a6 : Int32) : gM Int32 := if a1 = 4 then (f_X8_range_11  a0 a1 a2 a3 a4 a5 a6) else (if a1 = 6 then (f_X8_range_11  a0 a1 a2 a3 a4 a5 a6) else (gp (-2)))
section S_X8_range
variable {G : gX} {p : Program} {l : Launch} {e : Env} {s : State} {m : MethodId} {args : Array Value} {below : List Frame} {meth : Method} {c : Code} {mc ms : Nat} {y : Int32 × gS}
set_option maxHeartbeats 4000000 in
set_option maxRecDepth 100000 in
theorem w_X8_range_31 (C : gC G p s m args meth c cX8_range 7 RX8) (hr : meth.sig.returnType = (some .int))  (x0 : Option Nat) (x1 : Int32) (x2 : Int32) (x3 : Int32) (x4 : Int32) (x5 : Int32) (x6 : Int32) (s0 : Int32) (s1 : Int32) : gJ G p l e 3 67 mc ms s m args below meth c gri y 7 31 [(0, va_rf x0), (1, .int x1), (2, .int x2), (3, .int x3), (4, .int x4), (5, .int x5), (6, .int x6)] [.int s1, .int s0] (f_X8_range_31  x0 x1 x2 x3 x4 x5 x6 s0 s1) := by
  have hx := C.1
  have hb := C.2.1
  intro σ H locs cells slots ls hf I hl
  unfold f_X8_range_31 at hf
  refine lv_icmp_le (tgt := 37) hx hb dX8_range_31 (by decide) (fun hq => ?_) (fun hq => ?_)
  · have hf := gift hq hf
    refine gw_aload_n hx hb dX8_range_37 rfl (lv_at hl 0 rfl) ?_
    refine gw_getr (k := 6) C I gcls_7 (by decide) rfl kw_85 dX8_range_38 hf (fun v1 hf => ?_)
    refine lv_iload_n hx hb dX8_range_41 rfl (lv_at hl 1 rfl) ?_
    refine lv_iload_n hx hb dX8_range_42 rfl (lv_at hl 2 rfl) ?_
    refine lv_iload_n hx hb dX8_range_43 rfl (lv_at hl 3 rfl) ?_
    refine lv_iload hx hb dX8_range_44 (lv_at hl 4 rfl) ?_
    refine lv_iload hx hb dX8_range_46 (lv_at hl 5 rfl) ?_
    refine lv_iload hx hb dX8_range_48 (lv_at hl 6 rfl) ?_
    refine gw_callV (rest := []) C I hl.1 gcls_1 (m_X2_addRange G l v1 x1 x2 x3 x4 x5 x6) gl_RX8_139 gn_X2_addRange ⟨Nat.le_of_ble_eq_true rfl, Nat.le_of_ble_eq_true rfl⟩ rfl (gc4 (Nat.le_of_ble_eq_true rfl)) rfl dX8_range_50 hf (fun v2 σ H locs cells slots I hf => ?_)
    refine W.eq (g2 := F0 m 53 ls [.int v2]) rfl ?_
    exact gw_iret C I hr dX8_range_53 hf
  · have hf := giff hq hf
    refine lv_bipush (v := (-2)) hx hb dX8_range_34 kc_b_m2 ?_
    exact gw_iret C I hr dX8_range_36 hf
set_option maxHeartbeats 4000000 in
set_option maxRecDepth 100000 in
theorem w_X8_range_11 (C : gC G p s m args meth c cX8_range 7 RX8) (hr : meth.sig.returnType = (some .int))  (x0 : Option Nat) (x1 : Int32) (x2 : Int32) (x3 : Int32) (x4 : Int32) (x5 : Int32) (x6 : Int32) : gJ G p l e 3 67 mc ms s m args below meth c gri y 7 11 [(0, va_rf x0), (1, .int x1), (2, .int x2), (3, .int x3), (4, .int x4), (5, .int x5), (6, .int x6)] [] (f_X8_range_11  x0 x1 x2 x3 x4 x5 x6) := by
  have hx := C.1
  have hb := C.2.1
  intro σ H locs cells slots ls hf I hl
  unfold f_X8_range_11 at hf
  refine lv_iload hx hb dX8_range_11 (lv_at hl 6 rfl) ?_
  refine lv_if_lt (tgt := 34) hx hb dX8_range_13 (by decide) (fun hq => ?_) (fun hq => ?_)
  · have hf := gift hq hf
    refine lv_bipush (v := (-2)) hx hb dX8_range_34 kc_b_m2 ?_
    exact gw_iret C I hr dX8_range_36 hf
  · have hf := giff hq hf
    refine lv_iload hx hb dX8_range_16 (lv_at hl 6 rfl) ?_
    refine lv_iload_n hx hb dX8_range_18 rfl (lv_at hl 1 rfl) ?_
    refine lv_iconst (v := 4) hx hb dX8_range_19 kc_i_4 ?_
    refine lv_icmp_ne (tgt := 28) hx hb dX8_range_20 (by decide) (fun hq => ?_) (fun hq => ?_)
    · have hf := giff hq hf
      refine lv_sipush (v := 128) hx hb dX8_range_28 kc_s_128 ?_
      exact w_X8_range_31 C hr  x0 x1 x2 x3 x4 x5 x6 x6 128 _ _ _ _ _ _ hf I (lv_sub hl [0, 1, 2, 3, 4, 5, 6] rfl)
    · have hf := gift hq hf
      refine lv_bipush (v := 32) hx hb dX8_range_23 kc_b_32 ?_
      refine lv_goto (tgt := 31) hx hb dX8_range_25 (by decide) ?_
      exact w_X8_range_31 C hr  x0 x1 x2 x3 x4 x5 x6 x6 32 _ _ _ _ _ _ hf I (lv_sub hl [0, 1, 2, 3, 4, 5, 6] rfl)
set_option maxHeartbeats 4000000 in
set_option maxRecDepth 100000 in
theorem w_X8_range_0 (C : gC G p s m args meth c cX8_range 7 RX8) (hr : meth.sig.returnType = (some .int))  (a0 : Option Nat) (a1 : Int32) (a2 : Int32) (a3 : Int32) (a4 : Int32) (a5 : Int32) (a6 : Int32) : gJ G p l e 3 67 mc ms s m args below meth c gri y 7 0 [(0, va_rf a0), (1, .int a1), (2, .int a2), (3, .int a3), (4, .int a4), (5, .int a5), (6, .int a6)] [] (f_X8_range  a0 a1 a2 a3 a4 a5 a6) := by
  have hx := C.1
  have hb := C.2.1
  intro σ H locs cells slots ls hf I hl
  unfold f_X8_range at hf
  refine lv_iload_n hx hb dX8_range_0 rfl (lv_at hl 1 rfl) ?_
  refine lv_iconst (v := 4) hx hb dX8_range_1 kc_i_4 ?_
  refine lv_icmp_eq (tgt := 11) hx hb dX8_range_2 (by decide) (fun hq => ?_) (fun hq => ?_)
  · have hf := gift hq hf
    exact w_X8_range_11 C hr  a0 a1 a2 a3 a4 a5 a6 _ _ _ _ _ _ hf I (lv_sub hl [0, 1, 2, 3, 4, 5, 6] rfl)
  · have hf := giff hq hf
    refine lv_iload_n hx hb dX8_range_5 rfl (lv_at hl 1 rfl) ?_
    refine lv_bipush (v := 6) hx hb dX8_range_6 kc_b_6 ?_
    refine lv_icmp_ne (tgt := 34) hx hb dX8_range_8 (by decide) (fun hq => ?_) (fun hq => ?_)
    · have hf := giff hq hf
      refine lv_bipush (v := (-2)) hx hb dX8_range_34 kc_b_m2 ?_
      exact gw_iret C I hr dX8_range_36 hf
    · have hf := gift hq hf
      exact w_X8_range_11 C hr  a0 a1 a2 a3 a4 a5 a6 _ _ _ _ _ _ hf I (lv_sub hl [0, 1, 2, 3, 4, 5, 6] rfl)
end S_X8_range
theorem m_X8_range (G : gX) (l : Launch) (a0 : Option Nat) (a1 : Int32) (a2 : Int32) (a3 : Int32) (a4 : Int32) (a5 : Int32) (a6 : Int32) : gMet G l yX8_range cX8_range 7 (some .int) 3 67 [va_rf a0, .int a1, .int a2, .int a3, .int a4, .int a5, .int a6] gri (f_X8_range a0 a1 a2 a3 a4 a5 a6) := by
  refine gMet_of (by decide) ?_
  intro σ y p e s m below meth c mc ms hf C hr hnm I
  obtain ⟨ls, e1, hl⟩ := gentry m [va_rf a0, .int a1, .int a2, .int a3, .int a4, .int a5, .int a6] 7 [(0, va_rf a0), (1, .int a1), (2, .int a2), (3, .int a3), (4, .int a4), (5, .int a5), (6, .int a6)] (by simp [lg_sl, grc, gcat_i, gcat_l]) (by simp [lv_args, grc, gcat_i, gcat_l])
  rw [e1]
  exact w_X8_range_0 C hr a0 a1 a2 a3 a4 a5 a6 _ _ _ _ _ _ hf I hl
def f_X2_forget  (a0 : Option Nat) : gM Int32 := gb (rI 1 2 a0) fun v1 => gb (rI 1 5 a0) fun v2 => gb (rI 1 8 a0) fun v3 => gb (wI 1 2 a0 0) fun _ => gb (wI 1 5 a0 0) fun _ => gb (wI 1 8 a0 0) fun _ => gp ((v1 + v2) + v3)
section S_X2_forget
variable {G : gX} {p : Program} {l : Launch} {e : Env} {s : State} {m : MethodId} {args : Array Value} {below : List Frame} {meth : Method} {c : Code} {mc ms : Nat} {y : Int32 × gS}
set_option maxHeartbeats 4000000 in
set_option maxRecDepth 100000 in
theorem w_X2_forget_0 (C : gC G p s m args meth c cX2_forget 2 RX2) (hr : meth.sig.returnType = (some .int))  (a0 : Option Nat) : gJ G p l e 0 0 mc ms s m args below meth c gri y 2 0 [(0, va_rf a0)] [] (f_X2_forget  a0) := by
  have hx := C.1
  have hb := C.2.1
  intro σ H locs cells slots ls hf I hl
  unfold f_X2_forget at hf
  refine gw_aload_n hx hb dX2_forget_0 rfl (lv_at hl 0 rfl) ?_
  refine gw_geti (k := 2) C I gcls_1 (by decide) rfl kw_36 dX2_forget_1 hf (fun v1 hf => ?_)
  refine gw_aload_n hx hb dX2_forget_4 rfl (lv_at hl 0 rfl) ?_
  refine gw_geti (k := 5) C I gcls_1 (by decide) rfl kw_41 dX2_forget_5 hf (fun v2 hf => ?_)
  refine lv_iadd hx hb dX2_forget_8 ?_
  refine gw_aload_n hx hb dX2_forget_9 rfl (lv_at hl 0 rfl) ?_
  refine gw_geti (k := 8) C I gcls_1 (by decide) rfl kw_44 dX2_forget_10 hf (fun v3 hf => ?_)
  refine lv_iadd hx hb dX2_forget_13 ?_
  refine lv_istore_n (lv' := [(1, .int ((v1 + v2) + v3)), (0, va_rf a0)]) hx hb dX2_forget_14 rfl hl (by decide) (by cases a0 <;> rfl) (fun ls hl => ?_)
  refine gw_aload_n hx hb dX2_forget_15 rfl (lv_at hl 1 rfl) ?_
  refine lv_iconst (v := 0) hx hb dX2_forget_16 kc_i_0 ?_
  refine gw_puti (k := 2) C I gcls_1 (by decide) rfl kw_36 (Or.inl rfl) (by decide +kernel) dX2_forget_17 hf (fun σ H locs I hf => ?_)
  refine gw_aload_n hx hb dX2_forget_20 rfl (lv_at hl 1 rfl) ?_
  refine lv_iconst (v := 0) hx hb dX2_forget_21 kc_i_0 ?_
  refine gw_puti (k := 5) C I gcls_1 (by decide) rfl kw_41 (Or.inl rfl) (by decide +kernel) dX2_forget_22 hf (fun σ H locs I hf => ?_)
  refine gw_aload_n hx hb dX2_forget_25 rfl (lv_at hl 1 rfl) ?_
  refine lv_iconst (v := 0) hx hb dX2_forget_26 kc_i_0 ?_
  refine gw_puti (k := 8) C I gcls_1 (by decide) rfl kw_44 (Or.inl rfl) (by decide +kernel) dX2_forget_27 hf (fun σ H locs I hf => ?_)
  refine lv_iload_n hx hb dX2_forget_30 rfl (lv_at hl 0 rfl) ?_
  exact gw_iret C I hr dX2_forget_31 hf
end S_X2_forget
theorem m_X2_forget (G : gX) (l : Launch) (a0 : Option Nat) : gMet G l yX2_forget cX2_forget 2 (some .int) 0 0 [va_rf a0] gri (f_X2_forget a0) := by
  refine gMet_of (by decide) ?_
  intro σ y p e s m below meth c mc ms hf C hr hnm I
  obtain ⟨ls, e1, hl⟩ := gentry m [va_rf a0] 2 [(0, va_rf a0)] (by simp [lg_sl, grc, gcat_i, gcat_l]) (by simp [lv_args, grc, gcat_i, gcat_l])
  rw [e1]
  exact w_X2_forget_0 C hr a0 _ _ _ _ _ _ hf I hl
def f_X8_clear  (a0 : Option Nat) : gM Int32 := gb (rR 7 6 a0) fun v1 => gb (nn 1 v1) fun _ => gb (f_X2_forget v1) fun v2 => gp v2
section S_X8_clear
variable {G : gX} {p : Program} {l : Launch} {e : Env} {s : State} {m : MethodId} {args : Array Value} {below : List Frame} {meth : Method} {c : Code} {mc ms : Nat} {y : Int32 × gS}
set_option maxHeartbeats 4000000 in
set_option maxRecDepth 100000 in
theorem w_X8_clear_0 (C : gC G p s m args meth c cX8_clear 1 RX8) (hr : meth.sig.returnType = (some .int))  (a0 : Option Nat) : gJ G p l e 1 21 mc ms s m args below meth c gri y 1 0 [(0, va_rf a0)] [] (f_X8_clear  a0) := by
  have hx := C.1
  have hb := C.2.1
  intro σ H locs cells slots ls hf I hl
  unfold f_X8_clear at hf
  refine gw_aload_n hx hb dX8_clear_0 rfl (lv_at hl 0 rfl) ?_
  refine gw_getr (k := 6) C I gcls_7 (by decide) rfl kw_85 dX8_clear_1 hf (fun v1 hf => ?_)
  refine gw_callV (rest := []) C I hl.1 gcls_1 (m_X2_forget G l v1) gl_RX8_143 gn_X2_forget ⟨Nat.le_of_ble_eq_true rfl, Nat.le_of_ble_eq_true rfl⟩ rfl (gc4 (Nat.le_of_ble_eq_true rfl)) rfl dX8_clear_4 hf (fun v2 σ H locs cells slots I hf => ?_)
  refine W.eq (g2 := F0 m 7 ls [.int v2]) rfl ?_
  exact gw_iret C I hr dX8_clear_7 hf
end S_X8_clear
theorem m_X8_clear (G : gX) (l : Launch) (a0 : Option Nat) : gMet G l yX8_clear cX8_clear 1 (some .int) 1 21 [va_rf a0] gri (f_X8_clear a0) := by
  refine gMet_of (by decide) ?_
  intro σ y p e s m below meth c mc ms hf C hr hnm I
  obtain ⟨ls, e1, hl⟩ := gentry m [va_rf a0] 1 [(0, va_rf a0)] (by simp [lg_sl, grc, gcat_i, gcat_l]) (by simp [lv_args, grc, gcat_i, gcat_l])
  rw [e1]
  exact w_X8_clear_0 C hr a0 _ _ _ _ _ _ hf I hl
def f_X2_isBelow  (a0 : Option Nat) (a1 : Option Nat) : gM Int32 := gb (nn 2 a0) fun _ => gb (f_X3_isName a0) fun v1 => if v1 = 0 then (gz 0) else (gb (rR 2 1 a0) fun v2 => gb (rR 2 1 a1) fun v3 => gb (nn 4 v2) fun _ => gb (f_X5_endsWith v2 v3) fun v4 => if v4 = 0 then (gz 0) else (gb (rR 2 1 a0) fun v5 => gb (rR 2 1 a0) fun v6 => gb (rI 4 1 v6) fun v7 => gb (rR 2 1 a1) fun v8 => gb (rI 4 1 v8) fun v9 => gb (nn 4 v5) fun _ => gb (f_X5_byteAt v5 ((v7 - v9) - 1)) fun v10 => if v10 = 46 then (gz 1) else (gz 0)))
section S_X2_isBelow
variable {G : gX} {p : Program} {l : Launch} {e : Env} {s : State} {m : MethodId} {args : Array Value} {below : List Frame} {meth : Method} {c : Code} {mc ms : Nat} {y : Int32 × gS}
set_option maxHeartbeats 4000000 in
set_option maxRecDepth 100000 in
theorem w_X2_isBelow_0 (C : gC G p s m args meth c cX2_isBelow 2 RX2) (hr : meth.sig.returnType = (some .boolean))  (a0 : Option Nat) (a1 : Option Nat) : gJ G p l e 2 44 mc ms s m args below meth c gri y 2 0 [(0, va_rf a0), (1, va_rf a1)] [] (f_X2_isBelow  a0 a1) := by
  have hx := C.1
  have hb := C.2.1
  intro σ H locs cells slots ls hf I hl
  unfold f_X2_isBelow at hf
  refine gw_aload_n hx hb dX2_isBelow_0 rfl (lv_at hl 0 rfl) ?_
  refine gw_callV (rest := []) C I hl.1 gcls_2 (m_X3_isName G l a0) gl_RX2_81 gn_X3_isName ⟨Nat.le_of_ble_eq_true rfl, Nat.le_of_ble_eq_true rfl⟩ rfl (gc4 (Nat.le_of_ble_eq_true rfl)) rfl dX2_isBelow_1 hf (fun v1 σ H locs cells slots I hf => ?_)
  refine W.eq (g2 := F0 m 4 ls [.int v1]) rfl ?_
  refine lv_if_eq (tgt := 54) hx hb dX2_isBelow_4 (by decide) (fun hq => ?_) (fun hq => ?_)
  · have hf := gift hq hf
    refine lv_iconst (v := 0) hx hb dX2_isBelow_54 kc_i_0 ?_
    exact gw_zret C I hr dX2_isBelow_55 hf
  · have hf := giff hq hf
    refine gw_aload_n hx hb dX2_isBelow_7 rfl (lv_at hl 0 rfl) ?_
    refine gw_getr (k := 1) C I gcls_2 (by decide) rfl kw_156 dX2_isBelow_8 hf (fun v2 hf => ?_)
    refine gw_aload_n hx hb dX2_isBelow_11 rfl (lv_at hl 1 rfl) ?_
    refine gw_getr (k := 1) C I gcls_2 (by decide) rfl kw_156 dX2_isBelow_12 hf (fun v3 hf => ?_)
    refine gw_callV (rest := []) C I hl.1 gcls_4 (m_X5_endsWith G l v2 v3) gl_RX2_107 gn_X5_endsWith ⟨Nat.le_of_ble_eq_true rfl, Nat.le_of_ble_eq_true rfl⟩ rfl (gc4 (Nat.le_of_ble_eq_true rfl)) rfl dX2_isBelow_15 hf (fun v4 σ H locs cells slots I hf => ?_)
    refine W.eq (g2 := F0 m 18 ls [.int v4]) rfl ?_
    refine lv_if_eq (tgt := 54) hx hb dX2_isBelow_18 (by decide) (fun hq => ?_) (fun hq => ?_)
    · have hf := gift hq hf
      refine lv_iconst (v := 0) hx hb dX2_isBelow_54 kc_i_0 ?_
      exact gw_zret C I hr dX2_isBelow_55 hf
    · have hf := giff hq hf
      refine gw_aload_n hx hb dX2_isBelow_21 rfl (lv_at hl 0 rfl) ?_
      refine gw_getr (k := 1) C I gcls_2 (by decide) rfl kw_156 dX2_isBelow_22 hf (fun v5 hf => ?_)
      refine gw_aload_n hx hb dX2_isBelow_25 rfl (lv_at hl 0 rfl) ?_
      refine gw_getr (k := 1) C I gcls_2 (by decide) rfl kw_156 dX2_isBelow_26 hf (fun v6 hf => ?_)
      refine gw_geti (k := 1) C I gcls_4 (by decide) rfl kw_157 dX2_isBelow_29 hf (fun v7 hf => ?_)
      refine gw_aload_n hx hb dX2_isBelow_32 rfl (lv_at hl 1 rfl) ?_
      refine gw_getr (k := 1) C I gcls_2 (by decide) rfl kw_156 dX2_isBelow_33 hf (fun v8 hf => ?_)
      refine gw_geti (k := 1) C I gcls_4 (by decide) rfl kw_157 dX2_isBelow_36 hf (fun v9 hf => ?_)
      refine lv_isub hx hb dX2_isBelow_39 ?_
      refine lv_iconst (v := 1) hx hb dX2_isBelow_40 kc_i_1 ?_
      refine lv_isub hx hb dX2_isBelow_41 ?_
      refine gw_callV (rest := []) C I hl.1 gcls_4 (m_X5_byteAt G l v5 ((v7 - v9) - 1)) gl_RX2_114 gn_X5_byteAt ⟨Nat.le_of_ble_eq_true rfl, Nat.le_of_ble_eq_true rfl⟩ rfl (gc4 (Nat.le_of_ble_eq_true rfl)) rfl dX2_isBelow_42 hf (fun v10 σ H locs cells slots I hf => ?_)
      refine W.eq (g2 := F0 m 45 ls [.int v10]) rfl ?_
      refine lv_bipush (v := 46) hx hb dX2_isBelow_45 kc_b_46 ?_
      refine lv_icmp_ne (tgt := 54) hx hb dX2_isBelow_47 (by decide) (fun hq => ?_) (fun hq => ?_)
      · have hf := giff hq hf
        refine lv_iconst (v := 0) hx hb dX2_isBelow_54 kc_i_0 ?_
        exact gw_zret C I hr dX2_isBelow_55 hf
      · have hf := gift hq hf
        refine lv_iconst (v := 1) hx hb dX2_isBelow_50 kc_i_1 ?_
        refine lv_goto (tgt := 55) hx hb dX2_isBelow_51 (by decide) ?_
        exact gw_zret C I hr dX2_isBelow_55 hf
end S_X2_isBelow
theorem m_X2_isBelow (G : gX) (l : Launch) (a0 : Option Nat) (a1 : Option Nat) : gMet G l yX2_isBelow cX2_isBelow 2 (some .boolean) 2 44 [va_rf a0, va_rf a1] gri (f_X2_isBelow a0 a1) := by
  refine gMet_of (by decide) ?_
  intro σ y p e s m below meth c mc ms hf C hr hnm I
  obtain ⟨ls, e1, hl⟩ := gentry m [va_rf a0, va_rf a1] 2 [(0, va_rf a0), (1, va_rf a1)] (by simp [lg_sl, grc, gcat_i, gcat_l]) (by simp [lv_args, grc, gcat_i, gcat_l])
  rw [e1]
  exact w_X2_isBelow_0 C hr a0 a1 _ _ _ _ _ _ hf I hl
def f_X2_isListed_2 (rec2 : Option Nat → Option Nat → Int32 → gM Int32) (x0 : Option Nat) (x1 : Option Nat) (x2 : Int32) : gM Int32 := gb (rI 1 2 x0) fun v1 => if v1 ≤ x2 then (gz 0) else (if 12 ≤ x2 then (gz 0) else (gb (rR 1 0 x0) fun v2 => gb (aR 4 v2 x2) fun v3 => if v3 = none then (rec2 x0 x1 (x2 + 1)) else (gb (nn 2 x1) fun _ => gb (f_X3_equalsHost x1 v3) fun v4 => if v4 = 0 then (gb (rR 1 1 x0) fun v5 => gb (aI 2 v5 x2) fun v6 => if v6 = 0 then (rec2 x0 x1 (x2 + 1)) else (gb (f_X2_isBelow x1 v3) fun v7 => if v7 = 0 then (rec2 x0 x1 (x2 + 1)) else (gz 1))) else (gz 1))))
def f_X2_isListed_L2  : Nat → Option Nat → Option Nat → Int32 → gM Int32
  | 0, _, _, _ => gno
  | n + 1, x0, x1, x2 => f_X2_isListed_2  (f_X2_isListed_L2  n) x0 x1 x2
def f_X2_isListed  (a0 : Option Nat) (a1 : Option Nat) : gM Int32 := f_X2_isListed_L2  gF a0 a1 0
section S_X2_isListed
variable {G : gX} {p : Program} {l : Launch} {e : Env} {s : State} {m : MethodId} {args : Array Value} {below : List Frame} {meth : Method} {c : Code} {mc ms : Nat} {y : Int32 × gS}
set_option maxHeartbeats 4000000 in
set_option maxRecDepth 100000 in
theorem w_X2_isListed_2 (C : gC G p s m args meth c cX2_isListed 4 RX2) (hr : meth.sig.returnType = (some .boolean)) {rec2 : Option Nat → Option Nat → Int32 → gM Int32} (hrec2 : ∀ (x0 : Option Nat) (x1 : Option Nat) (x2 : Int32), gJ G p l e 4 86 mc ms s m args below meth c gri y 4 2 [(0, va_rf x0), (1, va_rf x1), (2, .int x2)] [] (rec2 x0 x1 x2)) (x0 : Option Nat) (x1 : Option Nat) (x2 : Int32) : gJ G p l e 4 86 mc ms s m args below meth c gri y 4 2 [(0, va_rf x0), (1, va_rf x1), (2, .int x2)] [] (f_X2_isListed_2 rec2 x0 x1 x2) := by
  have hx := C.1
  have hb := C.2.1
  intro σ H locs cells slots ls hf I hl
  unfold f_X2_isListed_2 at hf
  refine lv_iload_n hx hb dX2_isListed_2 rfl (lv_at hl 2 rfl) ?_
  refine gw_aload_n hx hb dX2_isListed_3 rfl (lv_at hl 0 rfl) ?_
  refine gw_geti (k := 2) C I gcls_1 (by decide) rfl kw_36 dX2_isListed_4 hf (fun v1 hf => ?_)
  refine lv_icmp_ge (tgt := 60) hx hb dX2_isListed_7 (by decide) (fun hq => ?_) (fun hq => ?_)
  · have hf := gift hq hf
    refine lv_iconst (v := 0) hx hb dX2_isListed_60 kc_i_0 ?_
    exact gw_zret C I hr dX2_isListed_61 hf
  · have hf := giff hq hf
    refine lv_iload_n hx hb dX2_isListed_10 rfl (lv_at hl 2 rfl) ?_
    refine lv_bipush (v := 12) hx hb dX2_isListed_11 kc_b_12 ?_
    refine lv_icmp_ge (tgt := 60) hx hb dX2_isListed_13 (by decide) (fun hq => ?_) (fun hq => ?_)
    · have hf := gift hq hf
      refine lv_iconst (v := 0) hx hb dX2_isListed_60 kc_i_0 ?_
      exact gw_zret C I hr dX2_isListed_61 hf
    · have hf := giff hq hf
      refine gw_aload_n hx hb dX2_isListed_16 rfl (lv_at hl 0 rfl) ?_
      refine gw_getr (k := 0) C I gcls_1 (by decide) rfl kw_33 dX2_isListed_17 hf (fun v2 hf => ?_)
      refine lv_iload_n hx hb dX2_isListed_20 rfl (lv_at hl 2 rfl) ?_
      refine gw_aald (t := 4) C I (by decide) rfl dX2_isListed_21 hf (fun v3 hf => ?_)
      refine gw_astore_n (lv' := [(3, va_rf v3), (0, va_rf x0), (1, va_rf x1), (2, .int x2)]) hx hb dX2_isListed_22 rfl hl (by decide) rfl (fun ls hl => ?_)
      refine gw_aload_n hx hb dX2_isListed_23 rfl (lv_at hl 0 rfl) ?_
      refine gw_ifnull (tgt := 54) hx hb dX2_isListed_24 (by decide) (fun hq => ?_) (fun hq => ?_)
      · have hf := gift hq hf
        refine lv_iinc (v := x2 + 1) (lv' := [(2, .int (x2 + 1)), (3, va_rf v3), (0, va_rf x0), (1, va_rf x1)]) hx hb dX2_isListed_54 hl (k := 3) rfl rfl (by decide) (by cases x1 <;> rfl) (fun ls hl => ?_)
        refine lv_goto (tgt := 2) hx hb dX2_isListed_57 (by decide) ?_
        exact hrec2 x0 x1 (x2 + 1) _ _ _ _ _ _ hf I (lv_sub hl [2, 3, 0] rfl)
      · have hf := giff hq hf
        refine gw_aload_n hx hb dX2_isListed_27 rfl (lv_at hl 2 rfl) ?_
        refine gw_aload_n hx hb dX2_isListed_28 rfl (lv_at hl 0 rfl) ?_
        refine gw_callV (rest := []) C I hl.1 gcls_2 (m_X3_equalsHost G l x1 v3) gl_RX2_100 gn_X3_equalsHost ⟨Nat.le_of_ble_eq_true rfl, Nat.le_of_ble_eq_true rfl⟩ rfl (gc4 (Nat.le_of_ble_eq_true rfl)) rfl dX2_isListed_29 hf (fun v4 σ H locs cells slots I hf => ?_)
        refine W.eq (g2 := F0 m 32 ls [.int v4]) rfl ?_
        refine lv_if_ne (tgt := 52) hx hb dX2_isListed_32 (by decide) (fun hq => ?_) (fun hq => ?_)
        · have hf := giff hq hf
          refine lv_iconst (v := 1) hx hb dX2_isListed_52 kc_i_1 ?_
          exact gw_zret C I hr dX2_isListed_53 hf
        · have hf := gift hq hf
          refine gw_aload_n hx hb dX2_isListed_35 rfl (lv_at hl 1 rfl) ?_
          refine gw_getr (k := 1) C I gcls_1 (by decide) rfl kw_35 dX2_isListed_36 hf (fun v5 hf => ?_)
          refine lv_iload_n hx hb dX2_isListed_39 rfl (lv_at hl 3 rfl) ?_
          refine gw_zald C I dX2_isListed_40 hf (fun v6 hf => ?_)
          refine lv_if_eq (tgt := 54) hx hb dX2_isListed_41 (by decide) (fun hq => ?_) (fun hq => ?_)
          · have hf := gift hq hf
            refine lv_iinc (v := x2 + 1) (lv' := [(2, .int (x2 + 1)), (3, va_rf v3), (0, va_rf x0), (1, va_rf x1)]) hx hb dX2_isListed_54 hl (k := 3) rfl rfl (by decide) (by cases x1 <;> rfl) (fun ls hl => ?_)
            refine lv_goto (tgt := 2) hx hb dX2_isListed_57 (by decide) ?_
            exact hrec2 x0 x1 (x2 + 1) _ _ _ _ _ _ hf I (lv_sub hl [2, 3, 0] rfl)
          · have hf := giff hq hf
            refine gw_aload_n hx hb dX2_isListed_44 rfl (lv_at hl 2 rfl) ?_
            refine gw_aload_n hx hb dX2_isListed_45 rfl (lv_at hl 0 rfl) ?_
            refine gw_callS (rest := []) C I hl.1 (m_X2_isBelow G l x1 v3) gl_RX2_103 kw_158 ⟨Nat.le_of_ble_eq_true rfl, Nat.le_of_ble_eq_true rfl⟩ rfl (gc4 (Nat.le_of_ble_eq_true rfl)) rfl dX2_isListed_46 hf (fun v7 σ H locs cells slots I hf => ?_)
            refine W.eq (g2 := F0 m 49 ls [.int v7]) rfl ?_
            refine lv_if_eq (tgt := 54) hx hb dX2_isListed_49 (by decide) (fun hq => ?_) (fun hq => ?_)
            · have hf := gift hq hf
              refine lv_iinc (v := x2 + 1) (lv' := [(2, .int (x2 + 1)), (3, va_rf v3), (0, va_rf x0), (1, va_rf x1)]) hx hb dX2_isListed_54 hl (k := 3) rfl rfl (by decide) (by cases x1 <;> rfl) (fun ls hl => ?_)
              refine lv_goto (tgt := 2) hx hb dX2_isListed_57 (by decide) ?_
              exact hrec2 x0 x1 (x2 + 1) _ _ _ _ _ _ hf I (lv_sub hl [2, 3, 0] rfl)
            · have hf := giff hq hf
              refine lv_iconst (v := 1) hx hb dX2_isListed_52 kc_i_1 ?_
              exact gw_zret C I hr dX2_isListed_53 hf
theorem w_X2_isListed_L2 (C : gC G p s m args meth c cX2_isListed 4 RX2) (hr : meth.sig.returnType = (some .boolean))  : ∀ (n : Nat) (x0 : Option Nat) (x1 : Option Nat) (x2 : Int32), gJ G p l e 4 86 mc ms s m args below meth c gri y 4 2 [(0, va_rf x0), (1, va_rf x1), (2, .int x2)] [] (f_X2_isListed_L2  n x0 x1 x2) := by
  intro n
  induction n with
  | zero => intro x0 x1 x2 σ H locs cells slots ls hf; exact (gno_some hf).elim
  | succ n ih => intro x0 x1 x2; exact w_X2_isListed_2 C hr  ih x0 x1 x2
set_option maxHeartbeats 4000000 in
set_option maxRecDepth 100000 in
theorem w_X2_isListed_0 (C : gC G p s m args meth c cX2_isListed 4 RX2) (hr : meth.sig.returnType = (some .boolean))  (a0 : Option Nat) (a1 : Option Nat) : gJ G p l e 4 86 mc ms s m args below meth c gri y 4 0 [(0, va_rf a0), (1, va_rf a1)] [] (f_X2_isListed  a0 a1) := by
  have hx := C.1
  have hb := C.2.1
  intro σ H locs cells slots ls hf I hl
  unfold f_X2_isListed at hf
  refine lv_iconst (v := 0) hx hb dX2_isListed_0 kc_i_0 ?_
  refine lv_istore_n (lv' := [(2, .int 0), (0, va_rf a0), (1, va_rf a1)]) hx hb dX2_isListed_1 rfl hl (by decide) (by cases a1 <;> rfl) (fun ls hl => ?_)
  exact w_X2_isListed_L2 C hr  _ a0 a1 0 _ _ _ _ _ _ hf I (lv_sub hl [1, 2, 0] rfl)
end S_X2_isListed
theorem m_X2_isListed (G : gX) (l : Launch) (a0 : Option Nat) (a1 : Option Nat) : gMet G l yX2_isListed cX2_isListed 4 (some .boolean) 4 86 [va_rf a0, va_rf a1] gri (f_X2_isListed a0 a1) := by
  refine gMet_of (by decide) ?_
  intro σ y p e s m below meth c mc ms hf C hr hnm I
  obtain ⟨ls, e1, hl⟩ := gentry m [va_rf a0, va_rf a1] 4 [(0, va_rf a0), (1, va_rf a1)] (by simp [lg_sl, grc, gcat_i, gcat_l]) (by simp [lv_args, grc, gcat_i, gcat_l])
  rw [e1]
  exact w_X2_isListed_0 C hr a0 a1 _ _ _ _ _ _ hf I hl
def f_X0_isFourInSix  (a0 : Option Nat) : gM Int32 := gb (rI 0 0 a0) fun v1 => if v1 = 6 then (gb (rR 0 1 a0) fun v2 => gb (aI 1 v2 0) fun v3 => if v3 = 0 then (gb (rR 0 1 a0) fun v4 => gb (aI 1 v4 1) fun v5 => if v5 = 0 then (gb (rR 0 1 a0) fun v6 => gb (aI 1 v6 2) fun v7 => if v7 = 65535 then (gz 1) else (gz 0)) else (gz 0)) else (gz 0)) else (gz 0)
section S_X0_isFourInSix
variable {G : gX} {p : Program} {l : Launch} {e : Env} {s : State} {m : MethodId} {args : Array Value} {below : List Frame} {meth : Method} {c : Code} {mc ms : Nat} {y : Int32 × gS}
set_option maxHeartbeats 4000000 in
set_option maxRecDepth 100000 in
theorem w_X0_isFourInSix_0 (C : gC G p s m args meth c cX0_isFourInSix 1 RX0) (hr : meth.sig.returnType = (some .boolean))  (a0 : Option Nat) : gJ G p l e 0 0 mc ms s m args below meth c gri y 1 0 [(0, va_rf a0)] [] (f_X0_isFourInSix  a0) := by
  have hx := C.1
  have hb := C.2.1
  intro σ H locs cells slots ls hf I hl
  unfold f_X0_isFourInSix at hf
  refine gw_aload_n hx hb dX0_isFourInSix_0 rfl (lv_at hl 0 rfl) ?_
  refine gw_geti (k := 0) C I gcls_0 (by decide) rfl kw_7 dX0_isFourInSix_1 hf (fun v1 hf => ?_)
  refine lv_bipush (v := 6) hx hb dX0_isFourInSix_4 kc_b_6 ?_
  refine lv_icmp_ne (tgt := 42) hx hb dX0_isFourInSix_6 (by decide) (fun hq => ?_) (fun hq => ?_)
  · have hf := giff hq hf
    refine lv_iconst (v := 0) hx hb dX0_isFourInSix_42 kc_i_0 ?_
    exact gw_zret C I hr dX0_isFourInSix_43 hf
  · have hf := gift hq hf
    refine gw_aload_n hx hb dX0_isFourInSix_9 rfl (lv_at hl 0 rfl) ?_
    refine gw_getr (k := 1) C I gcls_0 (by decide) rfl kw_8 dX0_isFourInSix_10 hf (fun v2 hf => ?_)
    refine lv_iconst (v := 0) hx hb dX0_isFourInSix_13 kc_i_0 ?_
    refine gw_iald C I dX0_isFourInSix_14 hf (fun v3 hf => ?_)
    refine lv_if_ne (tgt := 42) hx hb dX0_isFourInSix_15 (by decide) (fun hq => ?_) (fun hq => ?_)
    · have hf := giff hq hf
      refine lv_iconst (v := 0) hx hb dX0_isFourInSix_42 kc_i_0 ?_
      exact gw_zret C I hr dX0_isFourInSix_43 hf
    · have hf := gift hq hf
      refine gw_aload_n hx hb dX0_isFourInSix_18 rfl (lv_at hl 0 rfl) ?_
      refine gw_getr (k := 1) C I gcls_0 (by decide) rfl kw_8 dX0_isFourInSix_19 hf (fun v4 hf => ?_)
      refine lv_iconst (v := 1) hx hb dX0_isFourInSix_22 kc_i_1 ?_
      refine gw_iald C I dX0_isFourInSix_23 hf (fun v5 hf => ?_)
      refine lv_if_ne (tgt := 42) hx hb dX0_isFourInSix_24 (by decide) (fun hq => ?_) (fun hq => ?_)
      · have hf := giff hq hf
        refine lv_iconst (v := 0) hx hb dX0_isFourInSix_42 kc_i_0 ?_
        exact gw_zret C I hr dX0_isFourInSix_43 hf
      · have hf := gift hq hf
        refine gw_aload_n hx hb dX0_isFourInSix_27 rfl (lv_at hl 0 rfl) ?_
        refine gw_getr (k := 1) C I gcls_0 (by decide) rfl kw_8 dX0_isFourInSix_28 hf (fun v6 hf => ?_)
        refine lv_iconst (v := 2) hx hb dX0_isFourInSix_31 kc_i_2 ?_
        refine gw_iald C I dX0_isFourInSix_32 hf (fun v7 hf => ?_)
        refine gw_ldc C (v := 65535) kw_129 dX0_isFourInSix_33 ?_
        refine lv_icmp_ne (tgt := 42) hx hb dX0_isFourInSix_35 (by decide) (fun hq => ?_) (fun hq => ?_)
        · have hf := giff hq hf
          refine lv_iconst (v := 0) hx hb dX0_isFourInSix_42 kc_i_0 ?_
          exact gw_zret C I hr dX0_isFourInSix_43 hf
        · have hf := gift hq hf
          refine lv_iconst (v := 1) hx hb dX0_isFourInSix_38 kc_i_1 ?_
          refine lv_goto (tgt := 43) hx hb dX0_isFourInSix_39 (by decide) ?_
          exact gw_zret C I hr dX0_isFourInSix_43 hf
end S_X0_isFourInSix
theorem m_X0_isFourInSix (G : gX) (l : Launch) (a0 : Option Nat) : gMet G l yX0_isFourInSix cX0_isFourInSix 1 (some .boolean) 0 0 [va_rf a0] gri (f_X0_isFourInSix a0) := by
  refine gMet_of (by decide) ?_
  intro σ y p e s m below meth c mc ms hf C hr hnm I
  obtain ⟨ls, e1, hl⟩ := gentry m [va_rf a0] 1 [(0, va_rf a0)] (by simp [lg_sl, grc, gcat_i, gcat_l]) (by simp [lv_args, grc, gcat_i, gcat_l])
  rw [e1]
  exact w_X0_isFourInSix_0 C hr a0 _ _ _ _ _ _ hf I hl
def f_X0_agree  (a0 : Int32) (a1 : Int32) (a2 : Int32) : gM Int32 := if 0 < a2 then (if a2 < 32 then (if (((a0 ^^^ a1).toUInt32 >>> ((32 - a2).toUInt32 &&& Int32.toUInt32 31)).toInt32) = 0 then (gz 1) else (gz 0)) else (if a0 = a1 then (gz 1) else (gz 0))) else (gz 1)
section S_X0_agree
variable {G : gX} {p : Program} {l : Launch} {e : Env} {s : State} {m : MethodId} {args : Array Value} {below : List Frame} {meth : Method} {c : Code} {mc ms : Nat} {y : Int32 × gS}
set_option maxHeartbeats 4000000 in
set_option maxRecDepth 100000 in
theorem w_X0_agree_0 (C : gC G p s m args meth c cX0_agree 3 RX0) (hr : meth.sig.returnType = (some .boolean))  (a0 : Int32) (a1 : Int32) (a2 : Int32) : gJ G p l e 0 0 mc ms s m args below meth c gri y 3 0 [(0, .int a0), (1, .int a1), (2, .int a2)] [] (f_X0_agree  a0 a1 a2) := by
  have hx := C.1
  have hb := C.2.1
  intro σ H locs cells slots ls hf I hl
  unfold f_X0_agree at hf
  refine lv_iload_n hx hb dX0_agree_0 rfl (lv_at hl 2 rfl) ?_
  refine lv_if_gt (tgt := 6) hx hb dX0_agree_1 (by decide) (fun hq => ?_) (fun hq => ?_)
  · have hf := gift hq hf
    refine lv_iload_n hx hb dX0_agree_6 rfl (lv_at hl 2 rfl) ?_
    refine lv_bipush (v := 32) hx hb dX0_agree_7 kc_b_32 ?_
    refine lv_icmp_lt (tgt := 25) hx hb dX0_agree_9 (by decide) (fun hq => ?_) (fun hq => ?_)
    · have hf := gift hq hf
      refine lv_iload_n hx hb dX0_agree_25 rfl (lv_at hl 0 rfl) ?_
      refine lv_iload_n hx hb dX0_agree_26 rfl (lv_at hl 1 rfl) ?_
      refine lv_ixor hx hb dX0_agree_27 ?_
      refine lv_bipush (v := 32) hx hb dX0_agree_28 kc_b_32 ?_
      refine lv_iload_n hx hb dX0_agree_30 rfl (lv_at hl 2 rfl) ?_
      refine lv_isub hx hb dX0_agree_31 ?_
      refine lv_iushr hx hb dX0_agree_32 rfl ?_
      refine lv_if_ne (tgt := 40) hx hb dX0_agree_33 (by decide) (fun hq => ?_) (fun hq => ?_)
      · have hf := giff hq hf
        refine lv_iconst (v := 0) hx hb dX0_agree_40 kc_i_0 ?_
        exact gw_zret C I hr dX0_agree_41 hf
      · have hf := gift hq hf
        refine lv_iconst (v := 1) hx hb dX0_agree_36 kc_i_1 ?_
        refine lv_goto (tgt := 41) hx hb dX0_agree_37 (by decide) ?_
        exact gw_zret C I hr dX0_agree_41 hf
    · have hf := giff hq hf
      refine lv_iload_n hx hb dX0_agree_12 rfl (lv_at hl 0 rfl) ?_
      refine lv_iload_n hx hb dX0_agree_13 rfl (lv_at hl 1 rfl) ?_
      refine lv_icmp_ne (tgt := 21) hx hb dX0_agree_14 (by decide) (fun hq => ?_) (fun hq => ?_)
      · have hf := giff hq hf
        refine lv_iconst (v := 0) hx hb dX0_agree_21 kc_i_0 ?_
        refine lv_goto (tgt := 41) hx hb dX0_agree_22 (by decide) ?_
        exact gw_zret C I hr dX0_agree_41 hf
      · have hf := gift hq hf
        refine lv_iconst (v := 1) hx hb dX0_agree_17 kc_i_1 ?_
        refine lv_goto (tgt := 41) hx hb dX0_agree_18 (by decide) ?_
        exact gw_zret C I hr dX0_agree_41 hf
  · have hf := giff hq hf
    refine lv_iconst (v := 1) hx hb dX0_agree_4 kc_i_1 ?_
    exact gw_zret C I hr dX0_agree_5 hf
end S_X0_agree
theorem m_X0_agree (G : gX) (l : Launch) (a0 : Int32) (a1 : Int32) (a2 : Int32) : gMet G l yX0_agree cX0_agree 3 (some .boolean) 0 0 [.int a0, .int a1, .int a2] gri (f_X0_agree a0 a1 a2) := by
  refine gMet_of (by decide) ?_
  intro σ y p e s m below meth c mc ms hf C hr hnm I
  obtain ⟨ls, e1, hl⟩ := gentry m [.int a0, .int a1, .int a2] 3 [(0, .int a0), (1, .int a1), (2, .int a2)] (by simp [lg_sl, grc, gcat_i, gcat_l]) (by simp [lv_args, grc, gcat_i, gcat_l])
  rw [e1]
  exact w_X0_agree_0 C hr a0 a1 a2 _ _ _ _ _ _ hf I hl
def f_X0_isIn_55 (rec55 : Option Nat → Option Nat → Int32 → Int32 → gM Int32) (x0 : Option Nat) (x1 : Option Nat) (x2 : Int32) (x3 : Int32) : gM Int32 := if 4 ≤ x3 then (gz 1) else (gb (rR 0 1 x0) fun v1 => gb (aI 1 v1 x3) fun v2 => gb (rR 0 1 x1) fun v3 => gb (aI 1 v3 x3) fun v4 => gb (f_X0_agree v2 v4 (x2 - (32 * x3))) fun v5 => if v5 = 0 then (gz 0) else (rec55 x0 x1 x2 (x3 + 1)))
def f_X0_isIn_L55  : Nat → Option Nat → Option Nat → Int32 → Int32 → gM Int32
  | 0, _, _, _, _ => gno
  | n + 1, x0, x1, x2, x3 => f_X0_isIn_55  (f_X0_isIn_L55  n) x0 x1 x2 x3
def f_X0_isIn  (a0 : Option Nat) (a1 : Option Nat) (a2 : Int32) : gM Int32 := gb (nn 0 a0) fun _ => gb (f_X0_isFourInSix a0) fun v1 => if v1 = 0 then (gb (rI 0 0 a0) fun v2 => gb (rI 0 0 a1) fun v3 => if v2 = v3 then (f_X0_isIn_L55  gF a0 a1 a2 0) else (gz 0)) else (gb (rI 0 0 a1) fun v4 => if v4 = 4 then (gb (rR 0 1 a0) fun v5 => gb (aI 1 v5 3) fun v6 => gb (rR 0 1 a1) fun v7 => gb (aI 1 v7 0) fun v8 => gb (f_X0_agree v6 v8 a2) fun v9 => if v9 = 0 then (gz 0) else (gz 1)) else (gz 0))
section S_X0_isIn
variable {G : gX} {p : Program} {l : Launch} {e : Env} {s : State} {m : MethodId} {args : Array Value} {below : List Frame} {meth : Method} {c : Code} {mc ms : Nat} {y : Int32 × gS}
set_option maxHeartbeats 4000000 in
set_option maxRecDepth 100000 in
theorem w_X0_isIn_55 (C : gC G p s m args meth c cX0_isIn 4 RX0) (hr : meth.sig.returnType = (some .boolean)) {rec55 : Option Nat → Option Nat → Int32 → Int32 → gM Int32} (hrec55 : ∀ (x0 : Option Nat) (x1 : Option Nat) (x2 : Int32) (x3 : Int32), gJ G p l e 1 22 mc ms s m args below meth c gri y 4 55 [(0, va_rf x0), (1, va_rf x1), (2, .int x2), (3, .int x3)] [] (rec55 x0 x1 x2 x3)) (x0 : Option Nat) (x1 : Option Nat) (x2 : Int32) (x3 : Int32) : gJ G p l e 1 22 mc ms s m args below meth c gri y 4 55 [(0, va_rf x0), (1, va_rf x1), (2, .int x2), (3, .int x3)] [] (f_X0_isIn_55 rec55 x0 x1 x2 x3) := by
  have hx := C.1
  have hb := C.2.1
  intro σ H locs cells slots ls hf I hl
  unfold f_X0_isIn_55 at hf
  refine lv_iload_n hx hb dX0_isIn_55 rfl (lv_at hl 3 rfl) ?_
  refine lv_iconst (v := 4) hx hb dX0_isIn_56 kc_i_4 ?_
  refine lv_icmp_ge (tgt := 92) hx hb dX0_isIn_57 (by decide) (fun hq => ?_) (fun hq => ?_)
  · have hf := gift hq hf
    refine lv_iconst (v := 1) hx hb dX0_isIn_92 kc_i_1 ?_
    exact gw_zret C I hr dX0_isIn_93 hf
  · have hf := giff hq hf
    refine gw_aload_n hx hb dX0_isIn_60 rfl (lv_at hl 0 rfl) ?_
    refine gw_getr (k := 1) C I gcls_0 (by decide) rfl kw_8 dX0_isIn_61 hf (fun v1 hf => ?_)
    refine lv_iload_n hx hb dX0_isIn_64 rfl (lv_at hl 3 rfl) ?_
    refine gw_iald C I dX0_isIn_65 hf (fun v2 hf => ?_)
    refine gw_aload_n hx hb dX0_isIn_66 rfl (lv_at hl 1 rfl) ?_
    refine gw_getr (k := 1) C I gcls_0 (by decide) rfl kw_8 dX0_isIn_67 hf (fun v3 hf => ?_)
    refine lv_iload_n hx hb dX0_isIn_70 rfl (lv_at hl 3 rfl) ?_
    refine gw_iald C I dX0_isIn_71 hf (fun v4 hf => ?_)
    refine lv_iload_n hx hb dX0_isIn_72 rfl (lv_at hl 2 rfl) ?_
    refine lv_bipush (v := 32) hx hb dX0_isIn_73 kc_b_32 ?_
    refine lv_iload_n hx hb dX0_isIn_75 rfl (lv_at hl 3 rfl) ?_
    refine lv_imul hx hb dX0_isIn_76 ?_
    refine lv_isub hx hb dX0_isIn_77 ?_
    refine gw_callS (rest := []) C I hl.1 (m_X0_agree G l v2 v4 (x2 - (32 * x3))) gl_RX0_26 kw_159 ⟨Nat.le_of_ble_eq_true rfl, Nat.le_of_ble_eq_true rfl⟩ rfl (gc4 (Nat.le_of_ble_eq_true rfl)) rfl dX0_isIn_78 hf (fun v5 σ H locs cells slots I hf => ?_)
    refine W.eq (g2 := F0 m 81 ls [.int v5]) rfl ?_
    refine lv_if_ne (tgt := 86) hx hb dX0_isIn_81 (by decide) (fun hq => ?_) (fun hq => ?_)
    · have hf := giff hq hf
      refine lv_iinc (v := x3 + 1) (lv' := [(3, .int (x3 + 1)), (0, va_rf x0), (1, va_rf x1), (2, .int x2)]) hx hb dX0_isIn_86 hl (k := 3) rfl rfl (by decide) rfl (fun ls hl => ?_)
      refine lv_goto (tgt := 55) hx hb dX0_isIn_89 (by decide) ?_
      exact hrec55 x0 x1 x2 (x3 + 1) _ _ _ _ _ _ hf I (lv_sub hl [1, 2, 3, 0] rfl)
    · have hf := gift hq hf
      refine lv_iconst (v := 0) hx hb dX0_isIn_84 kc_i_0 ?_
      exact gw_zret C I hr dX0_isIn_85 hf
theorem w_X0_isIn_L55 (C : gC G p s m args meth c cX0_isIn 4 RX0) (hr : meth.sig.returnType = (some .boolean))  : ∀ (n : Nat) (x0 : Option Nat) (x1 : Option Nat) (x2 : Int32) (x3 : Int32), gJ G p l e 1 22 mc ms s m args below meth c gri y 4 55 [(0, va_rf x0), (1, va_rf x1), (2, .int x2), (3, .int x3)] [] (f_X0_isIn_L55  n x0 x1 x2 x3) := by
  intro n
  induction n with
  | zero => intro x0 x1 x2 x3 σ H locs cells slots ls hf; exact (gno_some hf).elim
  | succ n ih => intro x0 x1 x2 x3; exact w_X0_isIn_55 C hr  ih x0 x1 x2 x3
set_option maxHeartbeats 4000000 in
set_option maxRecDepth 100000 in
theorem w_X0_isIn_0 (C : gC G p s m args meth c cX0_isIn 4 RX0) (hr : meth.sig.returnType = (some .boolean))  (a0 : Option Nat) (a1 : Option Nat) (a2 : Int32) : gJ G p l e 1 22 mc ms s m args below meth c gri y 4 0 [(0, va_rf a0), (1, va_rf a1), (2, .int a2)] [] (f_X0_isIn  a0 a1 a2) := by
  have hx := C.1
  have hb := C.2.1
  intro σ H locs cells slots ls hf I hl
  unfold f_X0_isIn at hf
  refine gw_aload_n hx hb dX0_isIn_0 rfl (lv_at hl 0 rfl) ?_
  refine gw_callV (rest := []) C I hl.1 gcls_0 (m_X0_isFourInSix G l a0) gl_RX0_22 gn_X0_isFourInSix ⟨Nat.le_of_ble_eq_true rfl, Nat.le_of_ble_eq_true rfl⟩ rfl (gc4 (Nat.le_of_ble_eq_true rfl)) rfl dX0_isIn_1 hf (fun v1 σ H locs cells slots I hf => ?_)
  refine W.eq (g2 := F0 m 4 ls [.int v1]) rfl ?_
  refine lv_if_eq (tgt := 40) hx hb dX0_isIn_4 (by decide) (fun hq => ?_) (fun hq => ?_)
  · have hf := gift hq hf
    refine gw_aload_n hx hb dX0_isIn_40 rfl (lv_at hl 0 rfl) ?_
    refine gw_geti (k := 0) C I gcls_0 (by decide) rfl kw_7 dX0_isIn_41 hf (fun v2 hf => ?_)
    refine gw_aload_n hx hb dX0_isIn_44 rfl (lv_at hl 1 rfl) ?_
    refine gw_geti (k := 0) C I gcls_0 (by decide) rfl kw_7 dX0_isIn_45 hf (fun v3 hf => ?_)
    refine lv_icmp_eq (tgt := 53) hx hb dX0_isIn_48 (by decide) (fun hq => ?_) (fun hq => ?_)
    · have hf := gift hq hf
      refine lv_iconst (v := 0) hx hb dX0_isIn_53 kc_i_0 ?_
      refine lv_istore_n (lv' := [(3, .int 0), (0, va_rf a0), (1, va_rf a1), (2, .int a2)]) hx hb dX0_isIn_54 rfl hl (by decide) rfl (fun ls hl => ?_)
      exact w_X0_isIn_L55 C hr  _ a0 a1 a2 0 _ _ _ _ _ _ hf I (lv_sub hl [1, 2, 3, 0] rfl)
    · have hf := giff hq hf
      refine lv_iconst (v := 0) hx hb dX0_isIn_51 kc_i_0 ?_
      exact gw_zret C I hr dX0_isIn_52 hf
  · have hf := giff hq hf
    refine gw_aload_n hx hb dX0_isIn_7 rfl (lv_at hl 1 rfl) ?_
    refine gw_geti (k := 0) C I gcls_0 (by decide) rfl kw_7 dX0_isIn_8 hf (fun v4 hf => ?_)
    refine lv_iconst (v := 4) hx hb dX0_isIn_11 kc_i_4 ?_
    refine lv_icmp_ne (tgt := 38) hx hb dX0_isIn_12 (by decide) (fun hq => ?_) (fun hq => ?_)
    · have hf := giff hq hf
      refine lv_iconst (v := 0) hx hb dX0_isIn_38 kc_i_0 ?_
      exact gw_zret C I hr dX0_isIn_39 hf
    · have hf := gift hq hf
      refine gw_aload_n hx hb dX0_isIn_15 rfl (lv_at hl 0 rfl) ?_
      refine gw_getr (k := 1) C I gcls_0 (by decide) rfl kw_8 dX0_isIn_16 hf (fun v5 hf => ?_)
      refine lv_iconst (v := 3) hx hb dX0_isIn_19 kc_i_3 ?_
      refine gw_iald C I dX0_isIn_20 hf (fun v6 hf => ?_)
      refine gw_aload_n hx hb dX0_isIn_21 rfl (lv_at hl 1 rfl) ?_
      refine gw_getr (k := 1) C I gcls_0 (by decide) rfl kw_8 dX0_isIn_22 hf (fun v7 hf => ?_)
      refine lv_iconst (v := 0) hx hb dX0_isIn_25 kc_i_0 ?_
      refine gw_iald C I dX0_isIn_26 hf (fun v8 hf => ?_)
      refine lv_iload_n hx hb dX0_isIn_27 rfl (lv_at hl 2 rfl) ?_
      refine gw_callS (rest := []) C I hl.1 (m_X0_agree G l v6 v8 a2) gl_RX0_26 kw_159 ⟨Nat.le_of_ble_eq_true rfl, Nat.le_of_ble_eq_true rfl⟩ rfl (gc4 (Nat.le_of_ble_eq_true rfl)) rfl dX0_isIn_28 hf (fun v9 σ H locs cells slots I hf => ?_)
      refine W.eq (g2 := F0 m 31 ls [.int v9]) rfl ?_
      refine lv_if_eq (tgt := 38) hx hb dX0_isIn_31 (by decide) (fun hq => ?_) (fun hq => ?_)
      · have hf := gift hq hf
        refine lv_iconst (v := 0) hx hb dX0_isIn_38 kc_i_0 ?_
        exact gw_zret C I hr dX0_isIn_39 hf
      · have hf := giff hq hf
        refine lv_iconst (v := 1) hx hb dX0_isIn_34 kc_i_1 ?_
        refine lv_goto (tgt := 39) hx hb dX0_isIn_35 (by decide) ?_
        exact gw_zret C I hr dX0_isIn_39 hf
end S_X0_isIn
theorem m_X0_isIn (G : gX) (l : Launch) (a0 : Option Nat) (a1 : Option Nat) (a2 : Int32) : gMet G l yX0_isIn cX0_isIn 4 (some .boolean) 1 22 [va_rf a0, va_rf a1, .int a2] gri (f_X0_isIn a0 a1 a2) := by
  refine gMet_of (by decide) ?_
  intro σ y p e s m below meth c mc ms hf C hr hnm I
  obtain ⟨ls, e1, hl⟩ := gentry m [va_rf a0, va_rf a1, .int a2] 4 [(0, va_rf a0), (1, va_rf a1), (2, .int a2)] (by simp [lg_sl, grc, gcat_i, gcat_l]) (by simp [lv_args, grc, gcat_i, gcat_l])
  rw [e1]
  exact w_X0_isIn_0 C hr a0 a1 a2 _ _ _ _ _ _ hf I hl
def f_X2_isInSomeRange_2 (rec2 : Option Nat → Option Nat → Int32 → gM Int32) (x0 : Option Nat) (x1 : Option Nat) (x2 : Int32) : gM Int32 := gb (rI 1 8 x0) fun v1 => if v1 ≤ x2 then (gz 0) else (if 12 ≤ x2 then (gz 0) else (gb (rR 1 6 x0) fun v2 => gb (aR 3 v2 x2) fun v3 => if x1 = none then (rec2 x0 x1 (x2 + 1)) else (if v3 = none then (rec2 x0 x1 (x2 + 1)) else (gb (rR 1 7 x0) fun v4 => gb (aI 1 v4 x2) fun v5 => gb (nn 0 x1) fun _ => gb (f_X0_isIn x1 v3 v5) fun v6 => if v6 = 0 then (rec2 x0 x1 (x2 + 1)) else (gz 1)))))
def f_X2_isInSomeRange_L2  : Nat → Option Nat → Option Nat → Int32 → gM Int32
  | 0, _, _, _ => gno
  | n + 1, x0, x1, x2 => f_X2_isInSomeRange_2  (f_X2_isInSomeRange_L2  n) x0 x1 x2
def f_X2_isInSomeRange  (a0 : Option Nat) (a1 : Option Nat) : gM Int32 := f_X2_isInSomeRange_L2  gF a0 a1 0
section S_X2_isInSomeRange
variable {G : gX} {p : Program} {l : Launch} {e : Env} {s : State} {m : MethodId} {args : Array Value} {below : List Frame} {meth : Method} {c : Code} {mc ms : Nat} {y : Int32 × gS}
set_option maxHeartbeats 4000000 in
set_option maxRecDepth 100000 in
theorem w_X2_isInSomeRange_2 (C : gC G p s m args meth c cX2_isInSomeRange 4 RX2) (hr : meth.sig.returnType = (some .boolean)) {rec2 : Option Nat → Option Nat → Int32 → gM Int32} (hrec2 : ∀ (x0 : Option Nat) (x1 : Option Nat) (x2 : Int32), gJ G p l e 2 45 mc ms s m args below meth c gri y 4 2 [(0, va_rf x0), (1, va_rf x1), (2, .int x2)] [] (rec2 x0 x1 x2)) (x0 : Option Nat) (x1 : Option Nat) (x2 : Int32) : gJ G p l e 2 45 mc ms s m args below meth c gri y 4 2 [(0, va_rf x0), (1, va_rf x1), (2, .int x2)] [] (f_X2_isInSomeRange_2 rec2 x0 x1 x2) := by
  have hx := C.1
  have hb := C.2.1
  intro σ H locs cells slots ls hf I hl
  unfold f_X2_isInSomeRange_2 at hf
  refine lv_iload_n hx hb dX2_isInSomeRange_2 rfl (lv_at hl 2 rfl) ?_
  refine gw_aload_n hx hb dX2_isInSomeRange_3 rfl (lv_at hl 0 rfl) ?_
  refine gw_geti (k := 8) C I gcls_1 (by decide) rfl kw_44 dX2_isInSomeRange_4 hf (fun v1 hf => ?_)
  refine lv_icmp_ge (tgt := 53) hx hb dX2_isInSomeRange_7 (by decide) (fun hq => ?_) (fun hq => ?_)
  · have hf := gift hq hf
    refine lv_iconst (v := 0) hx hb dX2_isInSomeRange_53 kc_i_0 ?_
    exact gw_zret C I hr dX2_isInSomeRange_54 hf
  · have hf := giff hq hf
    refine lv_iload_n hx hb dX2_isInSomeRange_10 rfl (lv_at hl 2 rfl) ?_
    refine lv_bipush (v := 12) hx hb dX2_isInSomeRange_11 kc_b_12 ?_
    refine lv_icmp_ge (tgt := 53) hx hb dX2_isInSomeRange_13 (by decide) (fun hq => ?_) (fun hq => ?_)
    · have hf := gift hq hf
      refine lv_iconst (v := 0) hx hb dX2_isInSomeRange_53 kc_i_0 ?_
      exact gw_zret C I hr dX2_isInSomeRange_54 hf
    · have hf := giff hq hf
      refine gw_aload_n hx hb dX2_isInSomeRange_16 rfl (lv_at hl 0 rfl) ?_
      refine gw_getr (k := 6) C I gcls_1 (by decide) rfl kw_42 dX2_isInSomeRange_17 hf (fun v2 hf => ?_)
      refine lv_iload_n hx hb dX2_isInSomeRange_20 rfl (lv_at hl 2 rfl) ?_
      refine gw_aald (t := 3) C I (by decide) rfl dX2_isInSomeRange_21 hf (fun v3 hf => ?_)
      refine gw_astore_n (lv' := [(3, va_rf v3), (0, va_rf x0), (1, va_rf x1), (2, .int x2)]) hx hb dX2_isInSomeRange_22 rfl hl (by decide) rfl (fun ls hl => ?_)
      refine gw_aload_n hx hb dX2_isInSomeRange_23 rfl (lv_at hl 2 rfl) ?_
      refine gw_ifnull (tgt := 47) hx hb dX2_isInSomeRange_24 (by decide) (fun hq => ?_) (fun hq => ?_)
      · have hf := gift hq hf
        refine lv_iinc (v := x2 + 1) (lv' := [(2, .int (x2 + 1)), (3, va_rf v3), (0, va_rf x0), (1, va_rf x1)]) hx hb dX2_isInSomeRange_47 hl (k := 3) rfl rfl (by decide) (by cases x1 <;> rfl) (fun ls hl => ?_)
        refine lv_goto (tgt := 2) hx hb dX2_isInSomeRange_50 (by decide) ?_
        exact hrec2 x0 x1 (x2 + 1) _ _ _ _ _ _ hf I (lv_sub hl [2, 3, 0] rfl)
      · have hf := giff hq hf
        refine gw_aload_n hx hb dX2_isInSomeRange_27 rfl (lv_at hl 0 rfl) ?_
        refine gw_ifnull (tgt := 47) hx hb dX2_isInSomeRange_28 (by decide) (fun hq => ?_) (fun hq => ?_)
        · have hf := gift hq hf
          refine lv_iinc (v := x2 + 1) (lv' := [(2, .int (x2 + 1)), (3, va_rf v3), (0, va_rf x0), (1, va_rf x1)]) hx hb dX2_isInSomeRange_47 hl (k := 3) rfl rfl (by decide) (by cases x1 <;> rfl) (fun ls hl => ?_)
          refine lv_goto (tgt := 2) hx hb dX2_isInSomeRange_50 (by decide) ?_
          exact hrec2 x0 x1 (x2 + 1) _ _ _ _ _ _ hf I (lv_sub hl [2, 3, 0] rfl)
        · have hf := giff hq hf
          refine gw_aload_n hx hb dX2_isInSomeRange_31 rfl (lv_at hl 2 rfl) ?_
          refine gw_aload_n hx hb dX2_isInSomeRange_32 rfl (lv_at hl 0 rfl) ?_
          refine gw_aload_n hx hb dX2_isInSomeRange_33 rfl (lv_at hl 1 rfl) ?_
          refine gw_getr (k := 7) C I gcls_1 (by decide) rfl kw_43 dX2_isInSomeRange_34 hf (fun v4 hf => ?_)
          refine lv_iload_n hx hb dX2_isInSomeRange_37 rfl (lv_at hl 3 rfl) ?_
          refine gw_iald C I dX2_isInSomeRange_38 hf (fun v5 hf => ?_)
          refine gw_callV (rest := []) C I hl.1 gcls_0 (m_X0_isIn G l x1 v3 v5) gl_RX2_121 gn_X0_isIn ⟨Nat.le_of_ble_eq_true rfl, Nat.le_of_ble_eq_true rfl⟩ rfl (gc4 (Nat.le_of_ble_eq_true rfl)) rfl dX2_isInSomeRange_39 hf (fun v6 σ H locs cells slots I hf => ?_)
          refine W.eq (g2 := F0 m 42 ls [.int v6]) rfl ?_
          refine lv_if_eq (tgt := 47) hx hb dX2_isInSomeRange_42 (by decide) (fun hq => ?_) (fun hq => ?_)
          · have hf := gift hq hf
            refine lv_iinc (v := x2 + 1) (lv' := [(2, .int (x2 + 1)), (3, va_rf v3), (0, va_rf x0), (1, va_rf x1)]) hx hb dX2_isInSomeRange_47 hl (k := 3) rfl rfl (by decide) (by cases x1 <;> rfl) (fun ls hl => ?_)
            refine lv_goto (tgt := 2) hx hb dX2_isInSomeRange_50 (by decide) ?_
            exact hrec2 x0 x1 (x2 + 1) _ _ _ _ _ _ hf I (lv_sub hl [2, 3, 0] rfl)
          · have hf := giff hq hf
            refine lv_iconst (v := 1) hx hb dX2_isInSomeRange_45 kc_i_1 ?_
            exact gw_zret C I hr dX2_isInSomeRange_46 hf
theorem w_X2_isInSomeRange_L2 (C : gC G p s m args meth c cX2_isInSomeRange 4 RX2) (hr : meth.sig.returnType = (some .boolean))  : ∀ (n : Nat) (x0 : Option Nat) (x1 : Option Nat) (x2 : Int32), gJ G p l e 2 45 mc ms s m args below meth c gri y 4 2 [(0, va_rf x0), (1, va_rf x1), (2, .int x2)] [] (f_X2_isInSomeRange_L2  n x0 x1 x2) := by
  intro n
  induction n with
  | zero => intro x0 x1 x2 σ H locs cells slots ls hf; exact (gno_some hf).elim
  | succ n ih => intro x0 x1 x2; exact w_X2_isInSomeRange_2 C hr  ih x0 x1 x2
set_option maxHeartbeats 4000000 in
set_option maxRecDepth 100000 in
theorem w_X2_isInSomeRange_0 (C : gC G p s m args meth c cX2_isInSomeRange 4 RX2) (hr : meth.sig.returnType = (some .boolean))  (a0 : Option Nat) (a1 : Option Nat) : gJ G p l e 2 45 mc ms s m args below meth c gri y 4 0 [(0, va_rf a0), (1, va_rf a1)] [] (f_X2_isInSomeRange  a0 a1) := by
  have hx := C.1
  have hb := C.2.1
  intro σ H locs cells slots ls hf I hl
  unfold f_X2_isInSomeRange at hf
  refine lv_iconst (v := 0) hx hb dX2_isInSomeRange_0 kc_i_0 ?_
  refine lv_istore_n (lv' := [(2, .int 0), (0, va_rf a0), (1, va_rf a1)]) hx hb dX2_isInSomeRange_1 rfl hl (by decide) (by cases a1 <;> rfl) (fun ls hl => ?_)
  exact w_X2_isInSomeRange_L2 C hr  _ a0 a1 0 _ _ _ _ _ _ hf I (lv_sub hl [1, 2, 0] rfl)
end S_X2_isInSomeRange
theorem m_X2_isInSomeRange (G : gX) (l : Launch) (a0 : Option Nat) (a1 : Option Nat) : gMet G l yX2_isInSomeRange cX2_isInSomeRange 4 (some .boolean) 2 45 [va_rf a0, va_rf a1] gri (f_X2_isInSomeRange a0 a1) := by
  refine gMet_of (by decide) ?_
  intro σ y p e s m below meth c mc ms hf C hr hnm I
  obtain ⟨ls, e1, hl⟩ := gentry m [va_rf a0, va_rf a1] 4 [(0, va_rf a0), (1, va_rf a1)] (by simp [lg_sl, grc, gcat_i, gcat_l]) (by simp [lv_args, grc, gcat_i, gcat_l])
  rw [e1]
  exact w_X2_isInSomeRange_0 C hr a0 a1 _ _ _ _ _ _ hf I hl
def f_X2_judgeAnswers_79  (x2 : Int32) (x3 : Int32) : gM Int32 := if x2 = 0 then (gp 4) else (if x3 = 0 then (gp 5) else (gp 0))
def f_X2_judgeAnswers_7 (rec7 : Option Nat → Option Nat → Int32 → Int32 → Int32 → gM Int32) (x0 : Option Nat) (x1 : Option Nat) (x2 : Int32) (x3 : Int32) (x4 : Int32) : gM Int32 := gb (rI 1 5 x0) fun v1 => if v1 ≤ x4 then (f_X2_judgeAnswers_79  x2 x3) else (if 16 ≤ x4 then (f_X2_judgeAnswers_79  x2 x3) else (gb (rR 1 3 x0) fun v2 => gb (aR 5 v2 x4) fun v3 => if v3 = none then (rec7 x0 x1 x2 x3 (x4 + 1)) else (gb (nn 4 v3) fun _ => gb (f_X5_equalsRow v3 x1) fun v4 => if v4 = 0 then (rec7 x0 x1 x2 x3 (x4 + 1)) else (if x3 = 0 then (rec7 x0 x1 (x2 + 1) 0 (x4 + 1)) else (gb (rR 1 4 x0) fun v5 => gb (aR 3 v5 x4) fun v6 => gb (nn 1 x0) fun _ => gb (f_X2_isInSomeRange x0 v6) fun v7 => if v7 = 0 then (rec7 x0 x1 (x2 + 1) 0 (x4 + 1)) else (rec7 x0 x1 (x2 + 1) 1 (x4 + 1)))))))
def f_X2_judgeAnswers_L7  : Nat → Option Nat → Option Nat → Int32 → Int32 → Int32 → gM Int32
  | 0, _, _, _, _, _ => gno
  | n + 1, x0, x1, x2, x3, x4 => f_X2_judgeAnswers_7  (f_X2_judgeAnswers_L7  n) x0 x1 x2 x3 x4
def f_X2_judgeAnswers  (a0 : Option Nat) (a1 : Option Nat) : gM Int32 := f_X2_judgeAnswers_L7  gF a0 a1 0 1 0
section S_X2_judgeAnswers
variable {G : gX} {p : Program} {l : Launch} {e : Env} {s : State} {m : MethodId} {args : Array Value} {below : List Frame} {meth : Method} {c : Code} {mc ms : Nat} {y : Int32 × gS}
set_option maxHeartbeats 4000000 in
set_option maxRecDepth 100000 in
theorem w_X2_judgeAnswers_79 (C : gC G p s m args meth c cX2_judgeAnswers 6 RX2) (hr : meth.sig.returnType = (some .int))  (x2 : Int32) (x3 : Int32) : gJ G p l e 3 68 mc ms s m args below meth c gri y 6 79 [(2, .int x2), (3, .int x3)] [] (f_X2_judgeAnswers_79  x2 x3) := by
  have hx := C.1
  have hb := C.2.1
  intro σ H locs cells slots ls hf I hl
  unfold f_X2_judgeAnswers_79 at hf
  refine lv_iload_n hx hb dX2_judgeAnswers_79 rfl (lv_at hl 0 rfl) ?_
  refine lv_if_ne (tgt := 85) hx hb dX2_judgeAnswers_80 (by decide) (fun hq => ?_) (fun hq => ?_)
  · have hf := giff hq hf
    refine lv_iload_n hx hb dX2_judgeAnswers_85 rfl (lv_at hl 1 rfl) ?_
    refine lv_if_eq (tgt := 93) hx hb dX2_judgeAnswers_86 (by decide) (fun hq => ?_) (fun hq => ?_)
    · have hf := gift hq hf
      refine lv_iconst (v := 5) hx hb dX2_judgeAnswers_93 kc_i_5 ?_
      exact gw_iret C I hr dX2_judgeAnswers_94 hf
    · have hf := giff hq hf
      refine lv_iconst (v := 0) hx hb dX2_judgeAnswers_89 kc_i_0 ?_
      refine lv_goto (tgt := 94) hx hb dX2_judgeAnswers_90 (by decide) ?_
      exact gw_iret C I hr dX2_judgeAnswers_94 hf
  · have hf := gift hq hf
    refine lv_iconst (v := 4) hx hb dX2_judgeAnswers_83 kc_i_4 ?_
    exact gw_iret C I hr dX2_judgeAnswers_84 hf
set_option maxHeartbeats 4000000 in
set_option maxRecDepth 100000 in
theorem w_X2_judgeAnswers_7 (C : gC G p s m args meth c cX2_judgeAnswers 6 RX2) (hr : meth.sig.returnType = (some .int)) {rec7 : Option Nat → Option Nat → Int32 → Int32 → Int32 → gM Int32} (hrec7 : ∀ (x0 : Option Nat) (x1 : Option Nat) (x2 : Int32) (x3 : Int32) (x4 : Int32), gJ G p l e 3 68 mc ms s m args below meth c gri y 6 7 [(0, va_rf x0), (1, va_rf x1), (2, .int x2), (3, .int x3), (4, .int x4)] [] (rec7 x0 x1 x2 x3 x4)) (x0 : Option Nat) (x1 : Option Nat) (x2 : Int32) (x3 : Int32) (x4 : Int32) : gJ G p l e 3 68 mc ms s m args below meth c gri y 6 7 [(0, va_rf x0), (1, va_rf x1), (2, .int x2), (3, .int x3), (4, .int x4)] [] (f_X2_judgeAnswers_7 rec7 x0 x1 x2 x3 x4) := by
  have hx := C.1
  have hb := C.2.1
  intro σ H locs cells slots ls hf I hl
  unfold f_X2_judgeAnswers_7 at hf
  refine lv_iload hx hb dX2_judgeAnswers_7 (lv_at hl 4 rfl) ?_
  refine gw_aload_n hx hb dX2_judgeAnswers_9 rfl (lv_at hl 0 rfl) ?_
  refine gw_geti (k := 5) C I gcls_1 (by decide) rfl kw_41 dX2_judgeAnswers_10 hf (fun v1 hf => ?_)
  refine lv_icmp_ge (tgt := 79) hx hb dX2_judgeAnswers_13 (by decide) (fun hq => ?_) (fun hq => ?_)
  · have hf := gift hq hf
    exact w_X2_judgeAnswers_79 C hr  x2 x3 _ _ _ _ _ _ hf I (lv_sub hl [2, 3] rfl)
  · have hf := giff hq hf
    refine lv_iload hx hb dX2_judgeAnswers_16 (lv_at hl 4 rfl) ?_
    refine lv_bipush (v := 16) hx hb dX2_judgeAnswers_18 kc_b_16 ?_
    refine lv_icmp_ge (tgt := 79) hx hb dX2_judgeAnswers_20 (by decide) (fun hq => ?_) (fun hq => ?_)
    · have hf := gift hq hf
      exact w_X2_judgeAnswers_79 C hr  x2 x3 _ _ _ _ _ _ hf I (lv_sub hl [2, 3] rfl)
    · have hf := giff hq hf
      refine gw_aload_n hx hb dX2_judgeAnswers_23 rfl (lv_at hl 0 rfl) ?_
      refine gw_getr (k := 3) C I gcls_1 (by decide) rfl kw_38 dX2_judgeAnswers_24 hf (fun v2 hf => ?_)
      refine lv_iload hx hb dX2_judgeAnswers_27 (lv_at hl 4 rfl) ?_
      refine gw_aald (t := 5) C I (by decide) rfl dX2_judgeAnswers_29 hf (fun v3 hf => ?_)
      refine gw_astore (lv' := [(5, va_rf v3), (0, va_rf x0), (1, va_rf x1), (2, .int x2), (3, .int x3), (4, .int x4)]) hx hb dX2_judgeAnswers_30 hl (by decide) rfl (fun ls hl => ?_)
      refine gw_aload hx hb dX2_judgeAnswers_32 (lv_at hl 0 rfl) ?_
      refine gw_ifnull (tgt := 73) hx hb dX2_judgeAnswers_34 (by decide) (fun hq => ?_) (fun hq => ?_)
      · have hf := gift hq hf
        refine lv_iinc (v := x4 + 1) (lv' := [(4, .int (x4 + 1)), (5, va_rf v3), (0, va_rf x0), (1, va_rf x1), (2, .int x2), (3, .int x3)]) hx hb dX2_judgeAnswers_73 hl (k := 5) rfl rfl (by decide) rfl (fun ls hl => ?_)
        refine lv_goto (tgt := 7) hx hb dX2_judgeAnswers_76 (by decide) ?_
        exact hrec7 x0 x1 x2 x3 (x4 + 1) _ _ _ _ _ _ hf I (lv_sub hl [2, 3, 4, 5, 0] rfl)
      · have hf := giff hq hf
        refine gw_aload hx hb dX2_judgeAnswers_37 (lv_at hl 0 rfl) ?_
        refine gw_aload_n hx hb dX2_judgeAnswers_39 rfl (lv_at hl 2 rfl) ?_
        refine gw_callV (rest := []) C I hl.1 gcls_4 (m_X5_equalsRow G l v3 x1) gl_RX2_118 gn_X5_equalsRow ⟨Nat.le_of_ble_eq_true rfl, Nat.le_of_ble_eq_true rfl⟩ rfl (gc4 (Nat.le_of_ble_eq_true rfl)) rfl dX2_judgeAnswers_40 hf (fun v4 σ H locs cells slots I hf => ?_)
        refine W.eq (g2 := F0 m 43 ls [.int v4]) rfl ?_
        refine lv_if_eq (tgt := 73) hx hb dX2_judgeAnswers_43 (by decide) (fun hq => ?_) (fun hq => ?_)
        · have hf := gift hq hf
          refine lv_iinc (v := x4 + 1) (lv' := [(4, .int (x4 + 1)), (5, va_rf v3), (0, va_rf x0), (1, va_rf x1), (2, .int x2), (3, .int x3)]) hx hb dX2_judgeAnswers_73 hl (k := 5) rfl rfl (by decide) rfl (fun ls hl => ?_)
          refine lv_goto (tgt := 7) hx hb dX2_judgeAnswers_76 (by decide) ?_
          exact hrec7 x0 x1 x2 x3 (x4 + 1) _ _ _ _ _ _ hf I (lv_sub hl [2, 3, 4, 5, 0] rfl)
        · have hf := giff hq hf
          refine lv_iinc (v := x2 + 1) (lv' := [(2, .int (x2 + 1)), (5, va_rf v3), (0, va_rf x0), (1, va_rf x1), (3, .int x3), (4, .int x4)]) hx hb dX2_judgeAnswers_46 hl (k := 3) rfl rfl (by decide) (by cases x1 <;> rfl) (fun ls hl => ?_)
          refine lv_iload_n hx hb dX2_judgeAnswers_49 rfl (lv_at hl 4 rfl) ?_
          refine lv_if_eq (tgt := 71) hx hb dX2_judgeAnswers_50 (by decide) (fun hq => ?_) (fun hq => ?_)
          · have hf := gift hq hf
            refine lv_iconst (v := 0) hx hb dX2_judgeAnswers_71 kc_i_0 ?_
            refine lv_istore_n (lv' := [(3, .int 0), (2, .int (x2 + 1)), (5, va_rf v3), (0, va_rf x0), (1, va_rf x1), (4, .int x4)]) hx hb dX2_judgeAnswers_72 rfl hl (by decide) rfl (fun ls hl => ?_)
            refine lv_iinc (v := x4 + 1) (lv' := [(4, .int (x4 + 1)), (3, .int 0), (2, .int (x2 + 1)), (5, va_rf v3), (0, va_rf x0), (1, va_rf x1)]) hx hb dX2_judgeAnswers_73 hl (k := 5) rfl rfl (by decide) rfl (fun ls hl => ?_)
            refine lv_goto (tgt := 7) hx hb dX2_judgeAnswers_76 (by decide) ?_
            exact hrec7 x0 x1 (x2 + 1) 0 (x4 + 1) _ _ _ _ _ _ hf I (lv_sub hl [4, 5, 2, 1, 0] rfl)
          · have hf := giff hq hf
            refine gw_aload_n hx hb dX2_judgeAnswers_53 rfl (lv_at hl 2 rfl) ?_
            refine gw_aload_n hx hb dX2_judgeAnswers_54 rfl (lv_at hl 2 rfl) ?_
            refine gw_getr (k := 4) C I gcls_1 (by decide) rfl kw_40 dX2_judgeAnswers_55 hf (fun v5 hf => ?_)
            refine lv_iload hx hb dX2_judgeAnswers_58 (lv_at hl 5 rfl) ?_
            refine gw_aald (t := 3) C I (by decide) rfl dX2_judgeAnswers_60 hf (fun v6 hf => ?_)
            refine gw_callV (rest := []) C I hl.1 gcls_1 (m_X2_isInSomeRange G l x0 v6) gl_RX2_96 gn_X2_isInSomeRange ⟨Nat.le_of_ble_eq_true rfl, Nat.le_of_ble_eq_true rfl⟩ rfl (gc4 (Nat.le_of_ble_eq_true rfl)) rfl dX2_judgeAnswers_61 hf (fun v7 σ H locs cells slots I hf => ?_)
            refine W.eq (g2 := F0 m 64 ls [.int v7]) rfl ?_
            refine lv_if_eq (tgt := 71) hx hb dX2_judgeAnswers_64 (by decide) (fun hq => ?_) (fun hq => ?_)
            · have hf := gift hq hf
              refine lv_iconst (v := 0) hx hb dX2_judgeAnswers_71 kc_i_0 ?_
              refine lv_istore_n (lv' := [(3, .int 0), (2, .int (x2 + 1)), (5, va_rf v3), (0, va_rf x0), (1, va_rf x1), (4, .int x4)]) hx hb dX2_judgeAnswers_72 rfl hl (by decide) rfl (fun ls hl => ?_)
              refine lv_iinc (v := x4 + 1) (lv' := [(4, .int (x4 + 1)), (3, .int 0), (2, .int (x2 + 1)), (5, va_rf v3), (0, va_rf x0), (1, va_rf x1)]) hx hb dX2_judgeAnswers_73 hl (k := 5) rfl rfl (by decide) rfl (fun ls hl => ?_)
              refine lv_goto (tgt := 7) hx hb dX2_judgeAnswers_76 (by decide) ?_
              exact hrec7 x0 x1 (x2 + 1) 0 (x4 + 1) _ _ _ _ _ _ hf I (lv_sub hl [4, 5, 2, 1, 0] rfl)
            · have hf := giff hq hf
              refine lv_iconst (v := 1) hx hb dX2_judgeAnswers_67 kc_i_1 ?_
              refine lv_goto (tgt := 72) hx hb dX2_judgeAnswers_68 (by decide) ?_
              refine lv_istore_n (lv' := [(3, .int 1), (2, .int (x2 + 1)), (5, va_rf v3), (0, va_rf x0), (1, va_rf x1), (4, .int x4)]) hx hb dX2_judgeAnswers_72 rfl hl (by decide) rfl (fun ls hl => ?_)
              refine lv_iinc (v := x4 + 1) (lv' := [(4, .int (x4 + 1)), (3, .int 1), (2, .int (x2 + 1)), (5, va_rf v3), (0, va_rf x0), (1, va_rf x1)]) hx hb dX2_judgeAnswers_73 hl (k := 5) rfl rfl (by decide) rfl (fun ls hl => ?_)
              refine lv_goto (tgt := 7) hx hb dX2_judgeAnswers_76 (by decide) ?_
              exact hrec7 x0 x1 (x2 + 1) 1 (x4 + 1) _ _ _ _ _ _ hf I (lv_sub hl [4, 5, 2, 1, 0] rfl)
theorem w_X2_judgeAnswers_L7 (C : gC G p s m args meth c cX2_judgeAnswers 6 RX2) (hr : meth.sig.returnType = (some .int))  : ∀ (n : Nat) (x0 : Option Nat) (x1 : Option Nat) (x2 : Int32) (x3 : Int32) (x4 : Int32), gJ G p l e 3 68 mc ms s m args below meth c gri y 6 7 [(0, va_rf x0), (1, va_rf x1), (2, .int x2), (3, .int x3), (4, .int x4)] [] (f_X2_judgeAnswers_L7  n x0 x1 x2 x3 x4) := by
  intro n
  induction n with
  | zero => intro x0 x1 x2 x3 x4 σ H locs cells slots ls hf; exact (gno_some hf).elim
  | succ n ih => intro x0 x1 x2 x3 x4; exact w_X2_judgeAnswers_7 C hr  ih x0 x1 x2 x3 x4
set_option maxHeartbeats 4000000 in
set_option maxRecDepth 100000 in
theorem w_X2_judgeAnswers_0 (C : gC G p s m args meth c cX2_judgeAnswers 6 RX2) (hr : meth.sig.returnType = (some .int))  (a0 : Option Nat) (a1 : Option Nat) : gJ G p l e 3 68 mc ms s m args below meth c gri y 6 0 [(0, va_rf a0), (1, va_rf a1)] [] (f_X2_judgeAnswers  a0 a1) := by
  have hx := C.1
  have hb := C.2.1
  intro σ H locs cells slots ls hf I hl
  unfold f_X2_judgeAnswers at hf
  refine lv_iconst (v := 0) hx hb dX2_judgeAnswers_0 kc_i_0 ?_
  refine lv_istore_n (lv' := [(2, .int 0), (0, va_rf a0), (1, va_rf a1)]) hx hb dX2_judgeAnswers_1 rfl hl (by decide) (by cases a1 <;> rfl) (fun ls hl => ?_)
  refine lv_iconst (v := 1) hx hb dX2_judgeAnswers_2 kc_i_1 ?_
  refine lv_istore_n (lv' := [(3, .int 1), (2, .int 0), (0, va_rf a0), (1, va_rf a1)]) hx hb dX2_judgeAnswers_3 rfl hl (by decide) rfl (fun ls hl => ?_)
  refine lv_iconst (v := 0) hx hb dX2_judgeAnswers_4 kc_i_0 ?_
  refine lv_istore (lv' := [(4, .int 0), (3, .int 1), (2, .int 0), (0, va_rf a0), (1, va_rf a1)]) hx hb dX2_judgeAnswers_5 hl (by decide) rfl (fun ls hl => ?_)
  exact w_X2_judgeAnswers_L7 C hr  _ a0 a1 0 1 0 _ _ _ _ _ _ hf I (lv_sub hl [3, 4, 2, 1, 0] rfl)
end S_X2_judgeAnswers
theorem m_X2_judgeAnswers (G : gX) (l : Launch) (a0 : Option Nat) (a1 : Option Nat) : gMet G l yX2_judgeAnswers cX2_judgeAnswers 6 (some .int) 3 68 [va_rf a0, va_rf a1] gri (f_X2_judgeAnswers a0 a1) := by
  refine gMet_of (by decide) ?_
  intro σ y p e s m below meth c mc ms hf C hr hnm I
  obtain ⟨ls, e1, hl⟩ := gentry m [va_rf a0, va_rf a1] 6 [(0, va_rf a0), (1, va_rf a1)] (by simp [lg_sl, grc, gcat_i, gcat_l]) (by simp [lv_args, grc, gcat_i, gcat_l])
  rw [e1]
  exact w_X2_judgeAnswers_0 C hr a0 a1 _ _ _ _ _ _ hf I hl
def f_X2_judge_17  (x0 : Option Nat) (x1 : Option Nat) : gM Int32 := gb (nn 5 x1) fun _ => gb (f_X6_hasUser x1) fun v1 => if v1 = 0 then (gb (rR 5 4 x1) fun v2 => gb (nn 1 x0) fun _ => gb (f_X2_isListed x0 v2) fun v3 => if v3 = 0 then (gp 3) else (gb (rR 5 4 x1) fun v4 => gb (nn 2 v4) fun _ => gb (f_X3_isName v4) fun v5 => if v5 = 0 then (gb (rR 5 4 x1) fun v6 => gb (rR 2 0 v6) fun v7 => gb (nn 1 x0) fun _ => gb (f_X2_isInSomeRange x0 v7) fun v8 => if v8 = 0 then (gp 5) else (gp 0)) else (gb (rR 5 4 x1) fun v9 => gb (rR 2 1 v9) fun v10 => gb (nn 1 x0) fun _ => gb (f_X2_judgeAnswers x0 v10) fun v11 => gp v11))) else (gp 2)
def f_X2_judge  (a0 : Option Nat) (a1 : Option Nat) : gM Int32 := gb (rI 5 0 a1) fun v1 => if v1 = 0 then (f_X2_judge_17  a0 a1) else (gb (rI 5 0 a1) fun v2 => if v2 = 2 then (f_X2_judge_17  a0 a1) else (gp 1))
section S_X2_judge
variable {G : gX} {p : Program} {l : Launch} {e : Env} {s : State} {m : MethodId} {args : Array Value} {below : List Frame} {meth : Method} {c : Code} {mc ms : Nat} {y : Int32 × gS}
set_option maxHeartbeats 4000000 in
set_option maxRecDepth 100000 in
theorem w_X2_judge_17 (C : gC G p s m args meth c cX2_judge 2 RX2) (hr : meth.sig.returnType = (some .int))  (x0 : Option Nat) (x1 : Option Nat) : gJ G p l e 5 109 mc ms s m args below meth c gri y 2 17 [(0, va_rf x0), (1, va_rf x1)] [] (f_X2_judge_17  x0 x1) := by
  have hx := C.1
  have hb := C.2.1
  intro σ H locs cells slots ls hf I hl
  unfold f_X2_judge_17 at hf
  refine gw_aload_n hx hb dX2_judge_17 rfl (lv_at hl 1 rfl) ?_
  refine gw_callV (rest := []) C I hl.1 gcls_5 (m_X6_hasUser G l x1) gl_RX2_69 gn_X6_hasUser ⟨Nat.le_of_ble_eq_true rfl, Nat.le_of_ble_eq_true rfl⟩ rfl (gc4 (Nat.le_of_ble_eq_true rfl)) rfl dX2_judge_18 hf (fun v1 σ H locs cells slots I hf => ?_)
  refine W.eq (g2 := F0 m 21 ls [.int v1]) rfl ?_
  refine lv_if_eq (tgt := 26) hx hb dX2_judge_21 (by decide) (fun hq => ?_) (fun hq => ?_)
  · have hf := gift hq hf
    refine gw_aload_n hx hb dX2_judge_26 rfl (lv_at hl 0 rfl) ?_
    refine gw_aload_n hx hb dX2_judge_27 rfl (lv_at hl 1 rfl) ?_
    refine gw_getr (k := 4) C I gcls_5 (by decide) rfl kw_161 dX2_judge_28 hf (fun v2 hf => ?_)
    refine gw_callV (rest := []) C I hl.1 gcls_1 (m_X2_isListed G l x0 v2) gl_RX2_77 gn_X2_isListed ⟨Nat.le_of_ble_eq_true rfl, Nat.le_of_ble_eq_true rfl⟩ rfl (gc4 (Nat.le_of_ble_eq_true rfl)) rfl dX2_judge_31 hf (fun v3 σ H locs cells slots I hf => ?_)
    refine W.eq (g2 := F0 m 34 ls [.int v3]) rfl ?_
    refine lv_if_ne (tgt := 39) hx hb dX2_judge_34 (by decide) (fun hq => ?_) (fun hq => ?_)
    · have hf := giff hq hf
      refine gw_aload_n hx hb dX2_judge_39 rfl (lv_at hl 1 rfl) ?_
      refine gw_getr (k := 4) C I gcls_5 (by decide) rfl kw_161 dX2_judge_40 hf (fun v4 hf => ?_)
      refine gw_callV (rest := []) C I hl.1 gcls_2 (m_X3_isName G l v4) gl_RX2_81 gn_X3_isName ⟨Nat.le_of_ble_eq_true rfl, Nat.le_of_ble_eq_true rfl⟩ rfl (gc4 (Nat.le_of_ble_eq_true rfl)) rfl dX2_judge_43 hf (fun v5 σ H locs cells slots I hf => ?_)
      refine W.eq (g2 := F0 m 46 ls [.int v5]) rfl ?_
      refine lv_if_eq (tgt := 61) hx hb dX2_judge_46 (by decide) (fun hq => ?_) (fun hq => ?_)
      · have hf := gift hq hf
        refine gw_aload_n hx hb dX2_judge_61 rfl (lv_at hl 0 rfl) ?_
        refine gw_aload_n hx hb dX2_judge_62 rfl (lv_at hl 1 rfl) ?_
        refine gw_getr (k := 4) C I gcls_5 (by decide) rfl kw_161 dX2_judge_63 hf (fun v6 hf => ?_)
        refine gw_getr (k := 0) C I gcls_2 (by decide) rfl kw_162 dX2_judge_66 hf (fun v7 hf => ?_)
        refine gw_callV (rest := []) C I hl.1 gcls_1 (m_X2_isInSomeRange G l x0 v7) gl_RX2_96 gn_X2_isInSomeRange ⟨Nat.le_of_ble_eq_true rfl, Nat.le_of_ble_eq_true rfl⟩ rfl (gc4 (Nat.le_of_ble_eq_true rfl)) rfl dX2_judge_69 hf (fun v8 σ H locs cells slots I hf => ?_)
        refine W.eq (g2 := F0 m 72 ls [.int v8]) rfl ?_
        refine lv_if_eq (tgt := 79) hx hb dX2_judge_72 (by decide) (fun hq => ?_) (fun hq => ?_)
        · have hf := gift hq hf
          refine lv_iconst (v := 5) hx hb dX2_judge_79 kc_i_5 ?_
          exact gw_iret C I hr dX2_judge_80 hf
        · have hf := giff hq hf
          refine lv_iconst (v := 0) hx hb dX2_judge_75 kc_i_0 ?_
          refine lv_goto (tgt := 80) hx hb dX2_judge_76 (by decide) ?_
          exact gw_iret C I hr dX2_judge_80 hf
      · have hf := giff hq hf
        refine gw_aload_n hx hb dX2_judge_49 rfl (lv_at hl 0 rfl) ?_
        refine gw_aload_n hx hb dX2_judge_50 rfl (lv_at hl 1 rfl) ?_
        refine gw_getr (k := 4) C I gcls_5 (by decide) rfl kw_161 dX2_judge_51 hf (fun v9 hf => ?_)
        refine gw_getr (k := 1) C I gcls_2 (by decide) rfl kw_156 dX2_judge_54 hf (fun v10 hf => ?_)
        refine gw_callV (rest := []) C I hl.1 gcls_1 (m_X2_judgeAnswers G l x0 v10) gl_RX2_88 gn_X2_judgeAnswers ⟨Nat.le_of_ble_eq_true rfl, Nat.le_of_ble_eq_true rfl⟩ rfl (gc4 (Nat.le_of_ble_eq_true rfl)) rfl dX2_judge_57 hf (fun v11 σ H locs cells slots I hf => ?_)
        refine W.eq (g2 := F0 m 60 ls [.int v11]) rfl ?_
        exact gw_iret C I hr dX2_judge_60 hf
    · have hf := gift hq hf
      refine lv_iconst (v := 3) hx hb dX2_judge_37 kc_i_3 ?_
      exact gw_iret C I hr dX2_judge_38 hf
  · have hf := giff hq hf
    refine lv_iconst (v := 2) hx hb dX2_judge_24 kc_i_2 ?_
    exact gw_iret C I hr dX2_judge_25 hf
set_option maxHeartbeats 4000000 in
set_option maxRecDepth 100000 in
theorem w_X2_judge_0 (C : gC G p s m args meth c cX2_judge 2 RX2) (hr : meth.sig.returnType = (some .int))  (a0 : Option Nat) (a1 : Option Nat) : gJ G p l e 5 109 mc ms s m args below meth c gri y 2 0 [(0, va_rf a0), (1, va_rf a1)] [] (f_X2_judge  a0 a1) := by
  have hx := C.1
  have hb := C.2.1
  intro σ H locs cells slots ls hf I hl
  unfold f_X2_judge at hf
  refine gw_aload_n hx hb dX2_judge_0 rfl (lv_at hl 1 rfl) ?_
  refine gw_geti (k := 0) C I gcls_5 (by decide) rfl kw_160 dX2_judge_1 hf (fun v1 hf => ?_)
  refine lv_if_eq (tgt := 17) hx hb dX2_judge_4 (by decide) (fun hq => ?_) (fun hq => ?_)
  · have hf := gift hq hf
    exact w_X2_judge_17 C hr  a0 a1 _ _ _ _ _ _ hf I (lv_sub hl [0, 1] rfl)
  · have hf := giff hq hf
    refine gw_aload_n hx hb dX2_judge_7 rfl (lv_at hl 1 rfl) ?_
    refine gw_geti (k := 0) C I gcls_5 (by decide) rfl kw_160 dX2_judge_8 hf (fun v2 hf => ?_)
    refine lv_iconst (v := 2) hx hb dX2_judge_11 kc_i_2 ?_
    refine lv_icmp_eq (tgt := 17) hx hb dX2_judge_12 (by decide) (fun hq => ?_) (fun hq => ?_)
    · have hf := gift hq hf
      exact w_X2_judge_17 C hr  a0 a1 _ _ _ _ _ _ hf I (lv_sub hl [0, 1] rfl)
    · have hf := giff hq hf
      refine lv_iconst (v := 1) hx hb dX2_judge_15 kc_i_1 ?_
      exact gw_iret C I hr dX2_judge_16 hf
end S_X2_judge
theorem m_X2_judge (G : gX) (l : Launch) (a0 : Option Nat) (a1 : Option Nat) : gMet G l yX2_judge cX2_judge 2 (some .int) 5 109 [va_rf a0, va_rf a1] gri (f_X2_judge a0 a1) := by
  refine gMet_of (by decide) ?_
  intro σ y p e s m below meth c mc ms hf C hr hnm I
  obtain ⟨ls, e1, hl⟩ := gentry m [va_rf a0, va_rf a1] 2 [(0, va_rf a0), (1, va_rf a1)] (by simp [lg_sl, grc, gcat_i, gcat_l]) (by simp [lv_args, grc, gcat_i, gcat_l])
  rw [e1]
  exact w_X2_judge_0 C hr a0 a1 _ _ _ _ _ _ hf I hl
def f_X8_pass  (a0 : Option Nat) (a1 : Int32) : gM Int32 := gb (nn 7 a0) fun _ => gb (f_X8_recordAt a0 a1) fun v1 => if v1 = none then (gp (-2)) else (gb (rR 7 6 a0) fun v2 => gb (nn 1 v2) fun _ => gb (f_X2_judge v2 v1) fun v3 => gp v3)
section S_X8_pass
variable {G : gX} {p : Program} {l : Launch} {e : Env} {s : State} {m : MethodId} {args : Array Value} {below : List Frame} {meth : Method} {c : Code} {mc ms : Nat} {y : Int32 × gS}
set_option maxHeartbeats 4000000 in
set_option maxRecDepth 100000 in
theorem w_X8_pass_0 (C : gC G p s m args meth c cX8_pass 3 RX8) (hr : meth.sig.returnType = (some .int))  (a0 : Option Nat) (a1 : Int32) : gJ G p l e 6 130 mc ms s m args below meth c gri y 3 0 [(0, va_rf a0), (1, .int a1)] [] (f_X8_pass  a0 a1) := by
  have hx := C.1
  have hb := C.2.1
  intro σ H locs cells slots ls hf I hl
  unfold f_X8_pass at hf
  refine gw_aload_n hx hb dX8_pass_0 rfl (lv_at hl 0 rfl) ?_
  refine lv_iload_n hx hb dX8_pass_1 rfl (lv_at hl 1 rfl) ?_
  refine gw_callV (rest := []) C I hl.1 gcls_7 (m_X8_recordAt G l a0 a1) gl_RX8_69 gn_X8_recordAt ⟨Nat.le_of_ble_eq_true rfl, Nat.le_of_ble_eq_true rfl⟩ rfl (gc4 (Nat.le_of_ble_eq_true rfl)) rfl dX8_pass_2 hf (fun v1 σ H locs cells slots I hf => ?_)
  refine W.eq (g2 := F0 m 5 ls [va_rf v1]) rfl ?_
  refine gw_astore_n (lv' := [(2, va_rf v1), (0, va_rf a0), (1, .int a1)]) hx hb dX8_pass_5 rfl hl (by decide) rfl (fun ls hl => ?_)
  refine gw_aload_n hx hb dX8_pass_6 rfl (lv_at hl 0 rfl) ?_
  refine gw_ifnonnull (tgt := 15) hx hb dX8_pass_7 (by decide) (fun hq => ?_) (fun hq => ?_)
  · have hf := giff hq hf
    refine gw_aload_n hx hb dX8_pass_15 rfl (lv_at hl 1 rfl) ?_
    refine gw_getr (k := 6) C I gcls_7 (by decide) rfl kw_85 dX8_pass_16 hf (fun v2 hf => ?_)
    refine gw_aload_n hx hb dX8_pass_19 rfl (lv_at hl 0 rfl) ?_
    refine gw_callV (rest := []) C I hl.1 gcls_1 (m_X2_judge G l v2 v1) gl_RX8_146 gn_X2_judge ⟨Nat.le_of_ble_eq_true rfl, Nat.le_of_ble_eq_true rfl⟩ rfl (gc4 (Nat.le_of_ble_eq_true rfl)) rfl dX8_pass_20 hf (fun v3 σ H locs cells slots I hf => ?_)
    refine W.eq (g2 := F0 m 23 ls [.int v3]) rfl ?_
    exact gw_iret C I hr dX8_pass_23 hf
  · have hf := gift hq hf
    refine lv_bipush (v := (-2)) hx hb dX8_pass_10 kc_b_m2 ?_
    refine lv_goto (tgt := 23) hx hb dX8_pass_12 (by decide) ?_
    exact gw_iret C I hr dX8_pass_23 hf
end S_X8_pass
theorem m_X8_pass (G : gX) (l : Launch) (a0 : Option Nat) (a1 : Int32) : gMet G l yX8_pass cX8_pass 3 (some .int) 6 130 [va_rf a0, .int a1] gri (f_X8_pass a0 a1) := by
  refine gMet_of (by decide) ?_
  intro σ y p e s m below meth c mc ms hf C hr hnm I
  obtain ⟨ls, e1, hl⟩ := gentry m [va_rf a0, .int a1] 3 [(0, va_rf a0), (1, .int a1)] (by simp [lg_sl, grc, gcat_i, gcat_l]) (by simp [lv_args, grc, gcat_i, gcat_l])
  rw [e1]
  exact w_X8_pass_0 C hr a0 a1 _ _ _ _ _ _ hf I hl
def f_X9_init  (a0 : Option Nat) : gM Unit := if a0 = none then gno else (gb (nA 0 300) fun v1 => gb (wR 8 0 a0 v1) fun _ => gb (nA 2 5) fun v2 => gb (wR 8 2 a0 v2) fun _ => gb (nA 1 5) fun v3 => gb (wR 8 3 a0 v3) fun _ => gb (nA 1 5) fun v4 => gb (wR 8 4 a0 v4) fun _ => gb (nA 1 5) fun v5 => gb (wR 8 5 a0 v5) fun _ => gb (nA 1 40) fun v6 => gb (wR 8 6 a0 v6) fun _ => gb (nA 2 5) fun v7 => gb (wR 8 7 a0 v7) fun _ => gb (nA 2 5) fun v8 => gb (wR 8 8 a0 v8) fun _ => gb (nA 0 72000) fun v9 => gb (wR 8 9 a0 v9) fun _ => gb (nA 1 30) fun v10 => gb (wR 8 10 a0 v10) fun _ => gb (nA 0 300) fun v11 => gb (wR 8 11 a0 v11) fun _ => gb (nA 0 300) fun v12 => gb (wR 8 14 a0 v12) fun _ => gb (nA 1 8) fun v13 => gb (wR 8 17 a0 v13) fun _ => gb (nA 0 400) fun v14 => gb (wR 8 18 a0 v14) fun _ => gb (nA 0 3600) fun v15 => gb (wR 8 20 a0 v15) fun _ => gb (nA 1 12) fun v16 => gb (wR 8 21 a0 v16) fun _ => gb (nA 1 12) fun v17 => gb (wR 8 22 a0 v17) fun _ => gb (nA 1 96) fun v18 => gb (wR 8 23 a0 v18) fun _ => gb (nA 2 12) fun v19 => gb (wR 8 24 a0 v19) fun _ => gb (nA 0 4800) fun v20 => gb (wR 8 26 a0 v20) fun _ => gb (nA 1 16) fun v21 => gb (wR 8 27 a0 v21) fun _ => gb (nA 1 16) fun v22 => gb (wR 8 28 a0 v22) fun _ => gb (nA 1 64) fun v23 => gb (wR 8 29 a0 v23) fun _ => gb (nA 1 12) fun v24 => gb (wR 8 31 a0 v24) fun _ => gb (nA 1 48) fun v25 => gb (wR 8 32 a0 v25) fun _ => gb (nA 1 12) fun v26 => gb (wR 8 33 a0 v26) fun _ => gp ())
section S_X9_init
variable {G : gX} {p : Program} {l : Launch} {e : Env} {s : State} {m : MethodId} {args : Array Value} {below : List Frame} {meth : Method} {c : Code} {mc ms : Nat} {y : Unit × gS}
set_option maxHeartbeats 4000000 in
set_option maxRecDepth 100000 in
theorem w_X9_init_0 (C : gC G p s m args meth c cX9_init 1 RX9) (hr : meth.sig.returnType = none) (hnm : meth.name = "<init>")  (a0 : Option Nat) : gJ G p l e 1 20 mc ms s m args below meth c grv y 1 0 [(0, va_rf a0)] [] (f_X9_init  a0) := by
  have hx := C.1
  have hb := C.2.1
  intro σ H locs cells slots ls hf I hl
  unfold f_X9_init at hf
  refine gw_aload_n hx hb dX9_init_0 rfl (lv_at hl 0 rfl) ?_
  refine gw_obj (rest := []) C hl.1 ⟨kw_163, kw_1, kw_2⟩ ⟨Nat.le_of_ble_eq_true rfl, Nat.le_of_ble_eq_true rfl⟩ (gc4 (Nat.le_of_ble_eq_true rfl)) dX9_init_1 hf (fun hf => ?_)
  refine gw_aload_n hx hb dX9_init_4 rfl (lv_at hl 0 rfl) ?_
  refine lv_sipush (v := 300) hx hb dX9_init_5 kc_s_300 ?_
  refine gw_newa (t := 0) (ty := .byte) C I (by decide) rfl rfl rfl (by decide) kw_164 dX9_init_8 hf (fun v1 σ H locs cells slots I hf => ?_)
  refine gw_putr (k := 0) (ty := .array (.byte)) C I gcls_8 (by decide) rfl kw_165 (Or.inr ⟨rfl, hnm, rfl⟩) (by decide +kernel) (gty_a _) dX9_init_10 hf (fun σ H locs I hf => ?_)
  refine gw_aload_n hx hb dX9_init_13 rfl (lv_at hl 0 rfl) ?_
  refine lv_iconst (v := 5) hx hb dX9_init_14 kc_i_5 ?_
  refine gw_newa (t := 2) (ty := .boolean) C I (by decide) rfl rfl rfl (by decide) kw_34 dX9_init_15 hf (fun v2 σ H locs cells slots I hf => ?_)
  refine gw_putr (k := 2) (ty := .array (.boolean)) C I gcls_8 (by decide) rfl kw_166 (Or.inr ⟨rfl, hnm, rfl⟩) (by decide +kernel) (gty_a _) dX9_init_17 hf (fun σ H locs I hf => ?_)
  refine gw_aload_n hx hb dX9_init_20 rfl (lv_at hl 0 rfl) ?_
  refine lv_iconst (v := 5) hx hb dX9_init_21 kc_i_5 ?_
  refine gw_newa (t := 1) (ty := .int) C I (by decide) rfl rfl rfl (by decide) kw_3 dX9_init_22 hf (fun v3 σ H locs cells slots I hf => ?_)
  refine gw_putr (k := 3) (ty := .array (.int)) C I gcls_8 (by decide) rfl kw_167 (Or.inr ⟨rfl, hnm, rfl⟩) (by decide +kernel) (gty_a _) dX9_init_24 hf (fun σ H locs I hf => ?_)
  refine gw_aload_n hx hb dX9_init_27 rfl (lv_at hl 0 rfl) ?_
  refine lv_iconst (v := 5) hx hb dX9_init_28 kc_i_5 ?_
  refine gw_newa (t := 1) (ty := .int) C I (by decide) rfl rfl rfl (by decide) kw_3 dX9_init_29 hf (fun v4 σ H locs cells slots I hf => ?_)
  refine gw_putr (k := 4) (ty := .array (.int)) C I gcls_8 (by decide) rfl kw_168 (Or.inr ⟨rfl, hnm, rfl⟩) (by decide +kernel) (gty_a _) dX9_init_31 hf (fun σ H locs I hf => ?_)
  refine gw_aload_n hx hb dX9_init_34 rfl (lv_at hl 0 rfl) ?_
  refine lv_iconst (v := 5) hx hb dX9_init_35 kc_i_5 ?_
  refine gw_newa (t := 1) (ty := .int) C I (by decide) rfl rfl rfl (by decide) kw_3 dX9_init_36 hf (fun v5 σ H locs cells slots I hf => ?_)
  refine gw_putr (k := 5) (ty := .array (.int)) C I gcls_8 (by decide) rfl kw_169 (Or.inr ⟨rfl, hnm, rfl⟩) (by decide +kernel) (gty_a _) dX9_init_38 hf (fun σ H locs I hf => ?_)
  refine gw_aload_n hx hb dX9_init_41 rfl (lv_at hl 0 rfl) ?_
  refine lv_bipush (v := 40) hx hb dX9_init_42 kc_b_40 ?_
  refine gw_newa (t := 1) (ty := .int) C I (by decide) rfl rfl rfl (by decide) kw_3 dX9_init_44 hf (fun v6 σ H locs cells slots I hf => ?_)
  refine gw_putr (k := 6) (ty := .array (.int)) C I gcls_8 (by decide) rfl kw_170 (Or.inr ⟨rfl, hnm, rfl⟩) (by decide +kernel) (gty_a _) dX9_init_46 hf (fun σ H locs I hf => ?_)
  refine gw_aload_n hx hb dX9_init_49 rfl (lv_at hl 0 rfl) ?_
  refine lv_iconst (v := 5) hx hb dX9_init_50 kc_i_5 ?_
  refine gw_newa (t := 2) (ty := .boolean) C I (by decide) rfl rfl rfl (by decide) kw_34 dX9_init_51 hf (fun v7 σ H locs cells slots I hf => ?_)
  refine gw_putr (k := 7) (ty := .array (.boolean)) C I gcls_8 (by decide) rfl kw_171 (Or.inr ⟨rfl, hnm, rfl⟩) (by decide +kernel) (gty_a _) dX9_init_53 hf (fun σ H locs I hf => ?_)
  refine gw_aload_n hx hb dX9_init_56 rfl (lv_at hl 0 rfl) ?_
  refine lv_iconst (v := 5) hx hb dX9_init_57 kc_i_5 ?_
  refine gw_newa (t := 2) (ty := .boolean) C I (by decide) rfl rfl rfl (by decide) kw_34 dX9_init_58 hf (fun v8 σ H locs cells slots I hf => ?_)
  refine gw_putr (k := 8) (ty := .array (.boolean)) C I gcls_8 (by decide) rfl kw_172 (Or.inr ⟨rfl, hnm, rfl⟩) (by decide +kernel) (gty_a _) dX9_init_60 hf (fun σ H locs I hf => ?_)
  refine gw_aload_n hx hb dX9_init_63 rfl (lv_at hl 0 rfl) ?_
  refine gw_ldc C (v := 72000) kw_173 dX9_init_64 ?_
  refine gw_newa (t := 0) (ty := .byte) C I (by decide) rfl rfl rfl (by decide) kw_164 dX9_init_66 hf (fun v9 σ H locs cells slots I hf => ?_)
  refine gw_putr (k := 9) (ty := .array (.byte)) C I gcls_8 (by decide) rfl kw_174 (Or.inr ⟨rfl, hnm, rfl⟩) (by decide +kernel) (gty_a _) dX9_init_68 hf (fun σ H locs I hf => ?_)
  refine gw_aload_n hx hb dX9_init_71 rfl (lv_at hl 0 rfl) ?_
  refine lv_bipush (v := 30) hx hb dX9_init_72 kc_b_30 ?_
  refine gw_newa (t := 1) (ty := .int) C I (by decide) rfl rfl rfl (by decide) kw_3 dX9_init_74 hf (fun v10 σ H locs cells slots I hf => ?_)
  refine gw_putr (k := 10) (ty := .array (.int)) C I gcls_8 (by decide) rfl kw_175 (Or.inr ⟨rfl, hnm, rfl⟩) (by decide +kernel) (gty_a _) dX9_init_76 hf (fun σ H locs I hf => ?_)
  refine gw_aload_n hx hb dX9_init_79 rfl (lv_at hl 0 rfl) ?_
  refine lv_sipush (v := 300) hx hb dX9_init_80 kc_s_300 ?_
  refine gw_newa (t := 0) (ty := .byte) C I (by decide) rfl rfl rfl (by decide) kw_164 dX9_init_83 hf (fun v11 σ H locs cells slots I hf => ?_)
  refine gw_putr (k := 11) (ty := .array (.byte)) C I gcls_8 (by decide) rfl kw_176 (Or.inr ⟨rfl, hnm, rfl⟩) (by decide +kernel) (gty_a _) dX9_init_85 hf (fun σ H locs I hf => ?_)
  refine gw_aload_n hx hb dX9_init_88 rfl (lv_at hl 0 rfl) ?_
  refine lv_sipush (v := 300) hx hb dX9_init_89 kc_s_300 ?_
  refine gw_newa (t := 0) (ty := .byte) C I (by decide) rfl rfl rfl (by decide) kw_164 dX9_init_92 hf (fun v12 σ H locs cells slots I hf => ?_)
  refine gw_putr (k := 14) (ty := .array (.byte)) C I gcls_8 (by decide) rfl kw_177 (Or.inr ⟨rfl, hnm, rfl⟩) (by decide +kernel) (gty_a _) dX9_init_94 hf (fun σ H locs I hf => ?_)
  refine gw_aload_n hx hb dX9_init_97 rfl (lv_at hl 0 rfl) ?_
  refine lv_bipush (v := 8) hx hb dX9_init_98 kc_b_8 ?_
  refine gw_newa (t := 1) (ty := .int) C I (by decide) rfl rfl rfl (by decide) kw_3 dX9_init_100 hf (fun v13 σ H locs cells slots I hf => ?_)
  refine gw_putr (k := 17) (ty := .array (.int)) C I gcls_8 (by decide) rfl kw_178 (Or.inr ⟨rfl, hnm, rfl⟩) (by decide +kernel) (gty_a _) dX9_init_102 hf (fun σ H locs I hf => ?_)
  refine gw_aload_n hx hb dX9_init_105 rfl (lv_at hl 0 rfl) ?_
  refine lv_sipush (v := 400) hx hb dX9_init_106 kc_s_400 ?_
  refine gw_newa (t := 0) (ty := .byte) C I (by decide) rfl rfl rfl (by decide) kw_164 dX9_init_109 hf (fun v14 σ H locs cells slots I hf => ?_)
  refine gw_putr (k := 18) (ty := .array (.byte)) C I gcls_8 (by decide) rfl kw_179 (Or.inr ⟨rfl, hnm, rfl⟩) (by decide +kernel) (gty_a _) dX9_init_111 hf (fun σ H locs I hf => ?_)
  refine gw_aload_n hx hb dX9_init_114 rfl (lv_at hl 0 rfl) ?_
  refine lv_sipush (v := 3600) hx hb dX9_init_115 kc_s_3600 ?_
  refine gw_newa (t := 0) (ty := .byte) C I (by decide) rfl rfl rfl (by decide) kw_164 dX9_init_118 hf (fun v15 σ H locs cells slots I hf => ?_)
  refine gw_putr (k := 20) (ty := .array (.byte)) C I gcls_8 (by decide) rfl kw_180 (Or.inr ⟨rfl, hnm, rfl⟩) (by decide +kernel) (gty_a _) dX9_init_120 hf (fun σ H locs I hf => ?_)
  refine gw_aload_n hx hb dX9_init_123 rfl (lv_at hl 0 rfl) ?_
  refine lv_bipush (v := 12) hx hb dX9_init_124 kc_b_12 ?_
  refine gw_newa (t := 1) (ty := .int) C I (by decide) rfl rfl rfl (by decide) kw_3 dX9_init_126 hf (fun v16 σ H locs cells slots I hf => ?_)
  refine gw_putr (k := 21) (ty := .array (.int)) C I gcls_8 (by decide) rfl kw_181 (Or.inr ⟨rfl, hnm, rfl⟩) (by decide +kernel) (gty_a _) dX9_init_128 hf (fun σ H locs I hf => ?_)
  refine gw_aload_n hx hb dX9_init_131 rfl (lv_at hl 0 rfl) ?_
  refine lv_bipush (v := 12) hx hb dX9_init_132 kc_b_12 ?_
  refine gw_newa (t := 1) (ty := .int) C I (by decide) rfl rfl rfl (by decide) kw_3 dX9_init_134 hf (fun v17 σ H locs cells slots I hf => ?_)
  refine gw_putr (k := 22) (ty := .array (.int)) C I gcls_8 (by decide) rfl kw_182 (Or.inr ⟨rfl, hnm, rfl⟩) (by decide +kernel) (gty_a _) dX9_init_136 hf (fun σ H locs I hf => ?_)
  refine gw_aload_n hx hb dX9_init_139 rfl (lv_at hl 0 rfl) ?_
  refine lv_bipush (v := 96) hx hb dX9_init_140 kc_b_96 ?_
  refine gw_newa (t := 1) (ty := .int) C I (by decide) rfl rfl rfl (by decide) kw_3 dX9_init_142 hf (fun v18 σ H locs cells slots I hf => ?_)
  refine gw_putr (k := 23) (ty := .array (.int)) C I gcls_8 (by decide) rfl kw_183 (Or.inr ⟨rfl, hnm, rfl⟩) (by decide +kernel) (gty_a _) dX9_init_144 hf (fun σ H locs I hf => ?_)
  refine gw_aload_n hx hb dX9_init_147 rfl (lv_at hl 0 rfl) ?_
  refine lv_bipush (v := 12) hx hb dX9_init_148 kc_b_12 ?_
  refine gw_newa (t := 2) (ty := .boolean) C I (by decide) rfl rfl rfl (by decide) kw_34 dX9_init_150 hf (fun v19 σ H locs cells slots I hf => ?_)
  refine gw_putr (k := 24) (ty := .array (.boolean)) C I gcls_8 (by decide) rfl kw_184 (Or.inr ⟨rfl, hnm, rfl⟩) (by decide +kernel) (gty_a _) dX9_init_152 hf (fun σ H locs I hf => ?_)
  refine gw_aload_n hx hb dX9_init_155 rfl (lv_at hl 0 rfl) ?_
  refine lv_sipush (v := 4800) hx hb dX9_init_156 kc_s_4800 ?_
  refine gw_newa (t := 0) (ty := .byte) C I (by decide) rfl rfl rfl (by decide) kw_164 dX9_init_159 hf (fun v20 σ H locs cells slots I hf => ?_)
  refine gw_putr (k := 26) (ty := .array (.byte)) C I gcls_8 (by decide) rfl kw_185 (Or.inr ⟨rfl, hnm, rfl⟩) (by decide +kernel) (gty_a _) dX9_init_161 hf (fun σ H locs I hf => ?_)
  refine gw_aload_n hx hb dX9_init_164 rfl (lv_at hl 0 rfl) ?_
  refine lv_bipush (v := 16) hx hb dX9_init_165 kc_b_16 ?_
  refine gw_newa (t := 1) (ty := .int) C I (by decide) rfl rfl rfl (by decide) kw_3 dX9_init_167 hf (fun v21 σ H locs cells slots I hf => ?_)
  refine gw_putr (k := 27) (ty := .array (.int)) C I gcls_8 (by decide) rfl kw_186 (Or.inr ⟨rfl, hnm, rfl⟩) (by decide +kernel) (gty_a _) dX9_init_169 hf (fun σ H locs I hf => ?_)
  refine gw_aload_n hx hb dX9_init_172 rfl (lv_at hl 0 rfl) ?_
  refine lv_bipush (v := 16) hx hb dX9_init_173 kc_b_16 ?_
  refine gw_newa (t := 1) (ty := .int) C I (by decide) rfl rfl rfl (by decide) kw_3 dX9_init_175 hf (fun v22 σ H locs cells slots I hf => ?_)
  refine gw_putr (k := 28) (ty := .array (.int)) C I gcls_8 (by decide) rfl kw_187 (Or.inr ⟨rfl, hnm, rfl⟩) (by decide +kernel) (gty_a _) dX9_init_177 hf (fun σ H locs I hf => ?_)
  refine gw_aload_n hx hb dX9_init_180 rfl (lv_at hl 0 rfl) ?_
  refine lv_bipush (v := 64) hx hb dX9_init_181 kc_b_64 ?_
  refine gw_newa (t := 1) (ty := .int) C I (by decide) rfl rfl rfl (by decide) kw_3 dX9_init_183 hf (fun v23 σ H locs cells slots I hf => ?_)
  refine gw_putr (k := 29) (ty := .array (.int)) C I gcls_8 (by decide) rfl kw_188 (Or.inr ⟨rfl, hnm, rfl⟩) (by decide +kernel) (gty_a _) dX9_init_185 hf (fun σ H locs I hf => ?_)
  refine gw_aload_n hx hb dX9_init_188 rfl (lv_at hl 0 rfl) ?_
  refine lv_bipush (v := 12) hx hb dX9_init_189 kc_b_12 ?_
  refine gw_newa (t := 1) (ty := .int) C I (by decide) rfl rfl rfl (by decide) kw_3 dX9_init_191 hf (fun v24 σ H locs cells slots I hf => ?_)
  refine gw_putr (k := 31) (ty := .array (.int)) C I gcls_8 (by decide) rfl kw_189 (Or.inr ⟨rfl, hnm, rfl⟩) (by decide +kernel) (gty_a _) dX9_init_193 hf (fun σ H locs I hf => ?_)
  refine gw_aload_n hx hb dX9_init_196 rfl (lv_at hl 0 rfl) ?_
  refine lv_bipush (v := 48) hx hb dX9_init_197 kc_b_48 ?_
  refine gw_newa (t := 1) (ty := .int) C I (by decide) rfl rfl rfl (by decide) kw_3 dX9_init_199 hf (fun v25 σ H locs cells slots I hf => ?_)
  refine gw_putr (k := 32) (ty := .array (.int)) C I gcls_8 (by decide) rfl kw_190 (Or.inr ⟨rfl, hnm, rfl⟩) (by decide +kernel) (gty_a _) dX9_init_201 hf (fun σ H locs I hf => ?_)
  refine gw_aload_n hx hb dX9_init_204 rfl (lv_at hl 0 rfl) ?_
  refine lv_bipush (v := 12) hx hb dX9_init_205 kc_b_12 ?_
  refine gw_newa (t := 1) (ty := .int) C I (by decide) rfl rfl rfl (by decide) kw_3 dX9_init_207 hf (fun v26 σ H locs cells slots I hf => ?_)
  refine gw_putr (k := 33) (ty := .array (.int)) C I gcls_8 (by decide) rfl kw_191 (Or.inr ⟨rfl, hnm, rfl⟩) (by decide +kernel) (gty_a _) dX9_init_209 hf (fun σ H locs I hf => ?_)
  exact gw_vret C I hr dX9_init_212 hf
end S_X9_init
theorem m_X9_init (G : gX) (l : Launch) (a0 : Option Nat) : gMet G l yX9_init cX9_init 1 none 1 20 [va_rf a0] grv (f_X9_init a0) := by
  refine gMet_of (by decide) ?_
  intro σ y p e s m below meth c mc ms hf C hr hnm I
  obtain ⟨ls, e1, hl⟩ := gentry m [va_rf a0] 1 [(0, va_rf a0)] (by simp [lg_sl, grc, gcat_i, gcat_l]) (by simp [lv_args, grc, gcat_i, gcat_l])
  rw [e1]
  exact w_X9_init_0 C hr hnm a0 _ _ _ _ _ _ hf I hl
