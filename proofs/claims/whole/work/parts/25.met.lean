theorem dX6_portOf_0 : decode cX6_portOf 0 = .ok (.iload_n 0, 1) := by decide +kernel
theorem dX6_portOf_1 : decode cX6_portOf 1 = .ok (.tableswitch 38 0 3 #[31, 31, 34, 34], 31) := by decide +kernel
theorem dX6_portOf_32 : decode cX6_portOf 32 = .ok (.bipush 80, 2) := by decide +kernel
theorem dX6_portOf_34 : decode cX6_portOf 34 = .ok (.ireturn, 1) := by decide +kernel
theorem dX6_portOf_35 : decode cX6_portOf 35 = .ok (.sipush 443, 3) := by decide +kernel
theorem dX6_portOf_38 : decode cX6_portOf 38 = .ok (.ireturn, 1) := by decide +kernel
theorem dX6_portOf_39 : decode cX6_portOf 39 = .ok (.bipush 21, 2) := by decide +kernel
theorem dX6_portOf_41 : decode cX6_portOf 41 = .ok (.ireturn, 1) := by decide +kernel
theorem dX7_readPort_0 : decode cX7_readPort 0 = .ok (.iconst (-1), 1) := by decide +kernel
theorem dX7_readPort_1 : decode cX7_readPort 1 = .ok (.istore_n 2, 1) := by decide +kernel
theorem dX7_readPort_2 : decode cX7_readPort 2 = .ok (.aload_n 0, 1) := by decide +kernel
theorem dX7_readPort_3 : decode cX7_readPort 3 = .ok (.getfield 25, 3) := by decide +kernel
theorem dX7_readPort_6 : decode cX7_readPort 6 = .ok (.iconst 1, 1) := by decide +kernel
theorem dX7_readPort_7 : decode cX7_readPort 7 = .ok (.iadd, 1) := by decide +kernel
theorem dX7_readPort_8 : decode cX7_readPort 8 = .ok (.istore_n 3, 1) := by decide +kernel
theorem dX7_readPort_9 : decode cX7_readPort 9 = .ok (.iload_n 3, 1) := by decide +kernel
theorem dX7_readPort_10 : decode cX7_readPort 10 = .ok (.aload_n 0, 1) := by decide +kernel
theorem dX7_readPort_11 : decode cX7_readPort 11 = .ok (.getfield 18, 3) := by decide +kernel
theorem dX7_readPort_14 : decode cX7_readPort 14 = .ok (.if_icmp .ge 54, 3) := by decide +kernel
theorem dX7_readPort_17 : decode cX7_readPort 17 = .ok (.aload_n 0, 1) := by decide +kernel
theorem dX7_readPort_18 : decode cX7_readPort 18 = .ok (.getfield 12, 3) := by decide +kernel
theorem dX7_readPort_21 : decode cX7_readPort 21 = .ok (.iload_n 3, 1) := by decide +kernel
theorem dX7_readPort_22 : decode cX7_readPort 22 = .ok (.invokevirtual 61, 3) := by decide +kernel
theorem dX7_readPort_25 : decode cX7_readPort 25 = .ok (.istore 4, 2) := by decide +kernel
theorem dX7_readPort_27 : decode cX7_readPort 27 = .ok (.iload 4, 2) := by decide +kernel
theorem dX7_readPort_29 : decode cX7_readPort 29 = .ok (.invokestatic 116, 3) := by decide +kernel
theorem dX7_readPort_32 : decode cX7_readPort 32 = .ok (.ifCond .ne 6, 3) := by decide +kernel
theorem dX7_readPort_35 : decode cX7_readPort 35 = .ok (.bipush (-17), 2) := by decide +kernel
theorem dX7_readPort_37 : decode cX7_readPort 37 = .ok (.ireturn, 1) := by decide +kernel
theorem dX7_readPort_38 : decode cX7_readPort 38 = .ok (.bipush 10, 2) := by decide +kernel
theorem dX7_readPort_40 : decode cX7_readPort 40 = .ok (.iload_n 2, 1) := by decide +kernel
theorem dX7_readPort_41 : decode cX7_readPort 41 = .ok (.iconst 0, 1) := by decide +kernel
theorem dX7_readPort_42 : decode cX7_readPort 42 = .ok (.invokestatic 172, 3) := by decide +kernel
theorem dX7_readPort_45 : decode cX7_readPort 45 = .ok (.imul, 1) := by decide +kernel
theorem dX7_readPort_46 : decode cX7_readPort 46 = .ok (.iload 4, 2) := by decide +kernel
theorem dX7_readPort_48 : decode cX7_readPort 48 = .ok (.iadd, 1) := by decide +kernel
theorem dX7_readPort_49 : decode cX7_readPort 49 = .ok (.bipush 48, 2) := by decide +kernel
theorem dX7_readPort_51 : decode cX7_readPort 51 = .ok (.isub, 1) := by decide +kernel
theorem dX7_readPort_52 : decode cX7_readPort 52 = .ok (.istore_n 2, 1) := by decide +kernel
theorem dX7_readPort_53 : decode cX7_readPort 53 = .ok (.iload_n 2, 1) := by decide +kernel
theorem dX7_readPort_54 : decode cX7_readPort 54 = .ok (.ldc 177, 2) := by decide +kernel
theorem dX7_readPort_56 : decode cX7_readPort 56 = .ok (.if_icmp .le 6, 3) := by decide +kernel
theorem dX7_readPort_59 : decode cX7_readPort 59 = .ok (.bipush (-17), 2) := by decide +kernel
theorem dX7_readPort_61 : decode cX7_readPort 61 = .ok (.ireturn, 1) := by decide +kernel
theorem dX7_readPort_62 : decode cX7_readPort 62 = .ok (.iinc 3 1, 3) := by decide +kernel
theorem dX7_readPort_65 : decode cX7_readPort 65 = .ok (.goto (-56), 3) := by decide +kernel
theorem dX7_readPort_68 : decode cX7_readPort 68 = .ok (.aload_n 1, 1) := by decide +kernel
theorem dX7_readPort_69 : decode cX7_readPort 69 = .ok (.iload_n 2, 1) := by decide +kernel
theorem dX7_readPort_70 : decode cX7_readPort 70 = .ok (.aload_n 1, 1) := by decide +kernel
theorem dX7_readPort_71 : decode cX7_readPort 71 = .ok (.getfield 95, 3) := by decide +kernel
theorem dX7_readPort_74 : decode cX7_readPort 74 = .ok (.invokestatic 178, 3) := by decide +kernel
theorem dX7_readPort_77 : decode cX7_readPort 77 = .ok (.if_icmp .ne 7, 3) := by decide +kernel
theorem dX7_readPort_80 : decode cX7_readPort 80 = .ok (.iconst (-1), 1) := by decide +kernel
theorem dX7_readPort_81 : decode cX7_readPort 81 = .ok (.goto 4, 3) := by decide +kernel
theorem dX7_readPort_84 : decode cX7_readPort 84 = .ok (.iload_n 2, 1) := by decide +kernel
theorem dX7_readPort_85 : decode cX7_readPort 85 = .ok (.putfield 181, 3) := by decide +kernel
theorem dX7_readPort_88 : decode cX7_readPort 88 = .ok (.iconst 4, 1) := by decide +kernel
theorem dX7_readPort_89 : decode cX7_readPort 89 = .ok (.ireturn, 1) := by decide +kernel
theorem dX7_pointsIn_0 : decode cX7_pointsIn 0 = .ok (.iconst 0, 1) := by decide +kernel
theorem dX7_pointsIn_1 : decode cX7_pointsIn 1 = .ok (.istore_n 3, 1) := by decide +kernel
theorem dX7_pointsIn_2 : decode cX7_pointsIn 2 = .ok (.iload_n 1, 1) := by decide +kernel
theorem dX7_pointsIn_3 : decode cX7_pointsIn 3 = .ok (.istore 4, 2) := by decide +kernel
theorem dX7_pointsIn_5 : decode cX7_pointsIn 5 = .ok (.iload 4, 2) := by decide +kernel
theorem dX7_pointsIn_7 : decode cX7_pointsIn 7 = .ok (.iload_n 2, 1) := by decide +kernel
theorem dX7_pointsIn_8 : decode cX7_pointsIn 8 = .ok (.if_icmp .ge 73, 3) := by decide +kernel
theorem dX7_pointsIn_11 : decode cX7_pointsIn 11 = .ok (.aload_n 0, 1) := by decide +kernel
theorem dX7_pointsIn_12 : decode cX7_pointsIn 12 = .ok (.getfield 12, 3) := by decide +kernel
theorem dX7_pointsIn_15 : decode cX7_pointsIn 15 = .ok (.iload 4, 2) := by decide +kernel
theorem dX7_pointsIn_17 : decode cX7_pointsIn 17 = .ok (.invokevirtual 61, 3) := by decide +kernel
theorem dX7_pointsIn_20 : decode cX7_pointsIn 20 = .ok (.bipush 46, 2) := by decide +kernel
theorem dX7_pointsIn_22 : decode cX7_pointsIn 22 = .ok (.if_icmp .ne 9, 3) := by decide +kernel
theorem dX7_pointsIn_25 : decode cX7_pointsIn 25 = .ok (.iinc 4 1, 3) := by decide +kernel
theorem dX7_pointsIn_28 : decode cX7_pointsIn 28 = .ok (.goto 47, 3) := by decide +kernel
theorem dX7_pointsIn_31 : decode cX7_pointsIn 31 = .ok (.iload 4, 2) := by decide +kernel
theorem dX7_pointsIn_33 : decode cX7_pointsIn 33 = .ok (.iconst 3, 1) := by decide +kernel
theorem dX7_pointsIn_34 : decode cX7_pointsIn 34 = .ok (.iadd, 1) := by decide +kernel
theorem dX7_pointsIn_35 : decode cX7_pointsIn 35 = .ok (.iload_n 2, 1) := by decide +kernel
theorem dX7_pointsIn_36 : decode cX7_pointsIn 36 = .ok (.if_icmp .gt 37, 3) := by decide +kernel
theorem dX7_pointsIn_39 : decode cX7_pointsIn 39 = .ok (.aload_n 0, 1) := by decide +kernel
theorem dX7_pointsIn_40 : decode cX7_pointsIn 40 = .ok (.getfield 12, 3) := by decide +kernel
theorem dX7_pointsIn_43 : decode cX7_pointsIn 43 = .ok (.iload 4, 2) := by decide +kernel
theorem dX7_pointsIn_45 : decode cX7_pointsIn 45 = .ok (.ldc 199, 2) := by decide +kernel
theorem dX7_pointsIn_47 : decode cX7_pointsIn 47 = .ok (.invokevirtual 106, 3) := by decide +kernel
theorem dX7_pointsIn_50 : decode cX7_pointsIn 50 = .ok (.ifCond .ne 17, 3) := by decide +kernel
theorem dX7_pointsIn_53 : decode cX7_pointsIn 53 = .ok (.aload_n 0, 1) := by decide +kernel
theorem dX7_pointsIn_54 : decode cX7_pointsIn 54 = .ok (.getfield 12, 3) := by decide +kernel
theorem dX7_pointsIn_57 : decode cX7_pointsIn 57 = .ok (.iload 4, 2) := by decide +kernel
theorem dX7_pointsIn_59 : decode cX7_pointsIn 59 = .ok (.ldc 201, 2) := by decide +kernel
theorem dX7_pointsIn_61 : decode cX7_pointsIn 61 = .ok (.invokevirtual 106, 3) := by decide +kernel
theorem dX7_pointsIn_64 : decode cX7_pointsIn 64 = .ok (.ifCond .eq 9, 3) := by decide +kernel
theorem dX7_pointsIn_67 : decode cX7_pointsIn 67 = .ok (.iinc 4 3, 3) := by decide +kernel
theorem dX7_pointsIn_70 : decode cX7_pointsIn 70 = .ok (.goto 5, 3) := by decide +kernel
theorem dX7_pointsIn_73 : decode cX7_pointsIn 73 = .ok (.iconst 0, 1) := by decide +kernel
theorem dX7_pointsIn_74 : decode cX7_pointsIn 74 = .ok (.ireturn, 1) := by decide +kernel
theorem dX7_pointsIn_75 : decode cX7_pointsIn 75 = .ok (.iinc 3 1, 3) := by decide +kernel
theorem dX7_pointsIn_78 : decode cX7_pointsIn 78 = .ok (.goto (-73), 3) := by decide +kernel
theorem dX7_pointsIn_81 : decode cX7_pointsIn 81 = .ok (.iload_n 3, 1) := by decide +kernel
theorem dX7_pointsIn_82 : decode cX7_pointsIn 82 = .ok (.iconst 2, 1) := by decide +kernel
theorem dX7_pointsIn_83 : decode cX7_pointsIn 83 = .ok (.if_icmp .le 7, 3) := by decide +kernel
theorem dX7_pointsIn_86 : decode cX7_pointsIn 86 = .ok (.iconst 0, 1) := by decide +kernel
theorem dX7_pointsIn_87 : decode cX7_pointsIn 87 = .ok (.goto 4, 3) := by decide +kernel
theorem dX7_pointsIn_90 : decode cX7_pointsIn 90 = .ok (.iload_n 3, 1) := by decide +kernel
theorem dX7_pointsIn_91 : decode cX7_pointsIn 91 = .ok (.ireturn, 1) := by decide +kernel
theorem dX6_beginSegment_0 : decode cX6_beginSegment 0 = .ok (.aload_n 0, 1) := by decide +kernel
theorem dX6_beginSegment_1 : decode cX6_beginSegment 1 = .ok (.getfield 38, 3) := by decide +kernel
theorem dX6_beginSegment_4 : decode cX6_beginSegment 4 = .ok (.bipush 47, 2) := by decide +kernel
theorem dX6_beginSegment_6 : decode cX6_beginSegment 6 = .ok (.invokevirtual 86, 3) := by decide +kernel
theorem dX6_beginSegment_9 : decode cX6_beginSegment 9 = .ok (.aload_n 0, 1) := by decide +kernel
theorem dX6_beginSegment_10 : decode cX6_beginSegment 10 = .ok (.dup, 1) := by decide +kernel
theorem dX6_beginSegment_11 : decode cX6_beginSegment 11 = .ok (.getfield 41, 3) := by decide +kernel
theorem dX6_beginSegment_14 : decode cX6_beginSegment 14 = .ok (.iconst 1, 1) := by decide +kernel
theorem dX6_beginSegment_15 : decode cX6_beginSegment 15 = .ok (.iadd, 1) := by decide +kernel
theorem dX6_beginSegment_16 : decode cX6_beginSegment 16 = .ok (.putfield 41, 3) := by decide +kernel
theorem dX6_beginSegment_19 : decode cX6_beginSegment 19 = .ok (.return_, 1) := by decide +kernel
theorem dX7_takeSegment_0 : decode cX7_takeSegment 0 = .ok (.aload_n 0, 1) := by decide +kernel
theorem dX7_takeSegment_1 : decode cX7_takeSegment 1 = .ok (.iload_n 1, 1) := by decide +kernel
theorem dX7_takeSegment_2 : decode cX7_takeSegment 2 = .ok (.iload_n 2, 1) := by decide +kernel
theorem dX7_takeSegment_3 : decode cX7_takeSegment 3 = .ok (.invokevirtual 188, 3) := by decide +kernel
theorem dX7_takeSegment_6 : decode cX7_takeSegment 6 = .ok (.istore 5, 2) := by decide +kernel
theorem dX7_takeSegment_8 : decode cX7_takeSegment 8 = .ok (.iload 5, 2) := by decide +kernel
theorem dX7_takeSegment_10 : decode cX7_takeSegment 10 = .ok (.iconst 2, 1) := by decide +kernel
theorem dX7_takeSegment_11 : decode cX7_takeSegment 11 = .ok (.if_icmp .ne 8, 3) := by decide +kernel
theorem dX7_takeSegment_14 : decode cX7_takeSegment 14 = .ok (.aload 4, 2) := by decide +kernel
theorem dX7_takeSegment_16 : decode cX7_takeSegment 16 = .ok (.invokevirtual 146, 3) := by decide +kernel
theorem dX7_takeSegment_19 : decode cX7_takeSegment 19 = .ok (.iload 5, 2) := by decide +kernel
theorem dX7_takeSegment_21 : decode cX7_takeSegment 21 = .ok (.ifCond .eq 7, 3) := by decide +kernel
theorem dX7_takeSegment_24 : decode cX7_takeSegment 24 = .ok (.iload_n 3, 1) := by decide +kernel
theorem dX7_takeSegment_25 : decode cX7_takeSegment 25 = .ok (.ifCond .ne 8, 3) := by decide +kernel
theorem dX7_takeSegment_28 : decode cX7_takeSegment 28 = .ok (.aload 4, 2) := by decide +kernel
theorem dX7_takeSegment_30 : decode cX7_takeSegment 30 = .ok (.invokevirtual 191, 3) := by decide +kernel
theorem dX7_takeSegment_33 : decode cX7_takeSegment 33 = .ok (.iload_n 1, 1) := by decide +kernel
theorem dX7_takeSegment_34 : decode cX7_takeSegment 34 = .ok (.istore 6, 2) := by decide +kernel
theorem dX7_takeSegment_36 : decode cX7_takeSegment 36 = .ok (.iload 6, 2) := by decide +kernel
theorem dX7_takeSegment_38 : decode cX7_takeSegment 38 = .ok (.iload_n 2, 1) := by decide +kernel
theorem dX7_takeSegment_39 : decode cX7_takeSegment 39 = .ok (.if_icmp .ge 33, 3) := by decide +kernel
theorem dX7_takeSegment_42 : decode cX7_takeSegment 42 = .ok (.iload 5, 2) := by decide +kernel
theorem dX7_takeSegment_44 : decode cX7_takeSegment 44 = .ok (.ifCond .ne 28, 3) := by decide +kernel
theorem dX7_takeSegment_47 : decode cX7_takeSegment 47 = .ok (.aload 4, 2) := by decide +kernel
theorem dX7_takeSegment_49 : decode cX7_takeSegment 49 = .ok (.getfield 194, 3) := by decide +kernel
theorem dX7_takeSegment_52 : decode cX7_takeSegment 52 = .ok (.aload_n 0, 1) := by decide +kernel
theorem dX7_takeSegment_53 : decode cX7_takeSegment 53 = .ok (.getfield 12, 3) := by decide +kernel
theorem dX7_takeSegment_56 : decode cX7_takeSegment 56 = .ok (.iload 6, 2) := by decide +kernel
theorem dX7_takeSegment_58 : decode cX7_takeSegment 58 = .ok (.invokevirtual 61, 3) := by decide +kernel
theorem dX7_takeSegment_61 : decode cX7_takeSegment 61 = .ok (.ldc 197, 2) := by decide +kernel
theorem dX7_takeSegment_63 : decode cX7_takeSegment 63 = .ok (.invokevirtual 168, 3) := by decide +kernel
theorem dX7_takeSegment_66 : decode cX7_takeSegment 66 = .ok (.iinc 6 1, 3) := by decide +kernel
theorem dX7_takeSegment_69 : decode cX7_takeSegment 69 = .ok (.goto (-33), 3) := by decide +kernel
theorem dX7_takeSegment_72 : decode cX7_takeSegment 72 = .ok (.return_, 1) := by decide +kernel
theorem dX7_readSegments_0 : decode cX7_readSegments 0 = .ok (.aload_n 0, 1) := by decide +kernel
theorem dX7_readSegments_1 : decode cX7_readSegments 1 = .ok (.getfield 18, 3) := by decide +kernel
theorem dX7_readSegments_4 : decode cX7_readSegments 4 = .ok (.istore_n 2, 1) := by decide +kernel
theorem dX7_readSegments_5 : decode cX7_readSegments 5 = .ok (.iconst 1, 1) := by decide +kernel
theorem dX7_readSegments_6 : decode cX7_readSegments 6 = .ok (.istore_n 3, 1) := by decide +kernel
theorem dX7_readSegments_7 : decode cX7_readSegments 7 = .ok (.iload_n 3, 1) := by decide +kernel
theorem dX7_readSegments_8 : decode cX7_readSegments 8 = .ok (.ifCond .eq 86, 3) := by decide +kernel
theorem dX7_readSegments_11 : decode cX7_readSegments 11 = .ok (.iload_n 2, 1) := by decide +kernel
theorem dX7_readSegments_12 : decode cX7_readSegments 12 = .ok (.aload_n 0, 1) := by decide +kernel
theorem dX7_readSegments_13 : decode cX7_readSegments 13 = .ok (.getfield 12, 3) := by decide +kernel
theorem dX7_readSegments_16 : decode cX7_readSegments 16 = .ok (.getfield 81, 3) := by decide +kernel
theorem dX7_readSegments_19 : decode cX7_readSegments 19 = .ok (.if_icmp .gt 75, 3) := by decide +kernel
theorem dX7_readSegments_22 : decode cX7_readSegments 22 = .ok (.iload_n 2, 1) := by decide +kernel
theorem dX7_readSegments_23 : decode cX7_readSegments 23 = .ok (.istore 4, 2) := by decide +kernel
theorem dX7_readSegments_25 : decode cX7_readSegments 25 = .ok (.iload 4, 2) := by decide +kernel
theorem dX7_readSegments_27 : decode cX7_readSegments 27 = .ok (.aload_n 0, 1) := by decide +kernel
theorem dX7_readSegments_28 : decode cX7_readSegments 28 = .ok (.getfield 12, 3) := by decide +kernel
theorem dX7_readSegments_31 : decode cX7_readSegments 31 = .ok (.getfield 81, 3) := by decide +kernel
theorem dX7_readSegments_34 : decode cX7_readSegments 34 = .ok (.if_icmp .ge 24, 3) := by decide +kernel
theorem dX7_readSegments_37 : decode cX7_readSegments 37 = .ok (.aload_n 0, 1) := by decide +kernel
theorem dX7_readSegments_38 : decode cX7_readSegments 38 = .ok (.getfield 12, 3) := by decide +kernel
theorem dX7_readSegments_41 : decode cX7_readSegments 41 = .ok (.iload 4, 2) := by decide +kernel
theorem dX7_readSegments_43 : decode cX7_readSegments 43 = .ok (.invokevirtual 61, 3) := by decide +kernel
theorem dX7_readSegments_46 : decode cX7_readSegments 46 = .ok (.invokestatic 149, 3) := by decide +kernel
theorem dX7_readSegments_49 : decode cX7_readSegments 49 = .ok (.ifCond .ne 9, 3) := by decide +kernel
theorem dX7_readSegments_52 : decode cX7_readSegments 52 = .ok (.iinc 4 1, 3) := by decide +kernel
theorem dX7_readSegments_55 : decode cX7_readSegments 55 = .ok (.goto (-30), 3) := by decide +kernel
theorem dX7_readSegments_58 : decode cX7_readSegments 58 = .ok (.aload_n 0, 1) := by decide +kernel
theorem dX7_readSegments_59 : decode cX7_readSegments 59 = .ok (.getfield 12, 3) := by decide +kernel
theorem dX7_readSegments_62 : decode cX7_readSegments 62 = .ok (.iload 4, 2) := by decide +kernel
theorem dX7_readSegments_64 : decode cX7_readSegments 64 = .ok (.invokevirtual 61, 3) := by decide +kernel
theorem dX7_readSegments_67 : decode cX7_readSegments 67 = .ok (.invokestatic 65, 3) := by decide +kernel
theorem dX7_readSegments_70 : decode cX7_readSegments 70 = .ok (.istore_n 3, 1) := by decide +kernel
theorem dX7_readSegments_71 : decode cX7_readSegments 71 = .ok (.aload_n 0, 1) := by decide +kernel
theorem dX7_readSegments_72 : decode cX7_readSegments 72 = .ok (.iload_n 2, 1) := by decide +kernel
theorem dX7_readSegments_73 : decode cX7_readSegments 73 = .ok (.iload 4, 2) := by decide +kernel
theorem dX7_readSegments_75 : decode cX7_readSegments 75 = .ok (.iload_n 3, 1) := by decide +kernel
theorem dX7_readSegments_76 : decode cX7_readSegments 76 = .ok (.aload_n 1, 1) := by decide +kernel
theorem dX7_readSegments_77 : decode cX7_readSegments 77 = .ok (.invokevirtual 184, 3) := by decide +kernel
theorem dX7_readSegments_80 : decode cX7_readSegments 80 = .ok (.aload_n 0, 1) := by decide +kernel
theorem dX7_readSegments_81 : decode cX7_readSegments 81 = .ok (.iload 4, 2) := by decide +kernel
theorem dX7_readSegments_83 : decode cX7_readSegments 83 = .ok (.putfield 18, 3) := by decide +kernel
theorem dX7_readSegments_86 : decode cX7_readSegments 86 = .ok (.iload 4, 2) := by decide +kernel
theorem dX7_readSegments_88 : decode cX7_readSegments 88 = .ok (.iconst 1, 1) := by decide +kernel
theorem dX7_readSegments_89 : decode cX7_readSegments 89 = .ok (.iadd, 1) := by decide +kernel
theorem dX7_readSegments_90 : decode cX7_readSegments 90 = .ok (.istore_n 2, 1) := by decide +kernel
theorem dX7_readSegments_91 : decode cX7_readSegments 91 = .ok (.goto (-84), 3) := by decide +kernel
theorem dX7_readSegments_94 : decode cX7_readSegments 94 = .ok (.return_, 1) := by decide +kernel
theorem dX7_readQuery_0 : decode cX7_readQuery 0 = .ok (.aload_n 0, 1) := by decide +kernel
theorem dX7_readQuery_1 : decode cX7_readQuery 1 = .ok (.getfield 12, 3) := by decide +kernel
theorem dX7_readQuery_4 : decode cX7_readQuery 4 = .ok (.aload_n 0, 1) := by decide +kernel
theorem dX7_readQuery_5 : decode cX7_readQuery 5 = .ok (.getfield 18, 3) := by decide +kernel
theorem dX7_readQuery_8 : decode cX7_readQuery 8 = .ok (.invokevirtual 61, 3) := by decide +kernel
theorem dX7_readQuery_11 : decode cX7_readQuery 11 = .ok (.bipush 63, 2) := by decide +kernel
theorem dX7_readQuery_13 : decode cX7_readQuery 13 = .ok (.if_icmp .eq 4, 3) := by decide +kernel
theorem dX7_readQuery_16 : decode cX7_readQuery 16 = .ok (.return_, 1) := by decide +kernel
theorem dX7_readQuery_17 : decode cX7_readQuery 17 = .ok (.aload_n 1, 1) := by decide +kernel
theorem dX7_readQuery_18 : decode cX7_readQuery 18 = .ok (.iconst 1, 1) := by decide +kernel
theorem dX7_readQuery_19 : decode cX7_readQuery 19 = .ok (.putfield 203, 3) := by decide +kernel
theorem dX7_readQuery_22 : decode cX7_readQuery 22 = .ok (.aload_n 0, 1) := by decide +kernel
theorem dX7_readQuery_23 : decode cX7_readQuery 23 = .ok (.dup, 1) := by decide +kernel
theorem dX7_readQuery_24 : decode cX7_readQuery 24 = .ok (.getfield 18, 3) := by decide +kernel
theorem dX7_readQuery_27 : decode cX7_readQuery 27 = .ok (.iconst 1, 1) := by decide +kernel
theorem dX7_readQuery_28 : decode cX7_readQuery 28 = .ok (.iadd, 1) := by decide +kernel
theorem dX7_readQuery_29 : decode cX7_readQuery 29 = .ok (.putfield 18, 3) := by decide +kernel
theorem dX7_readQuery_32 : decode cX7_readQuery 32 = .ok (.aload_n 0, 1) := by decide +kernel
theorem dX7_readQuery_33 : decode cX7_readQuery 33 = .ok (.getfield 18, 3) := by decide +kernel
theorem dX7_readQuery_36 : decode cX7_readQuery 36 = .ok (.aload_n 0, 1) := by decide +kernel
theorem dX7_readQuery_37 : decode cX7_readQuery 37 = .ok (.getfield 12, 3) := by decide +kernel
theorem dX7_readQuery_40 : decode cX7_readQuery 40 = .ok (.getfield 81, 3) := by decide +kernel
theorem dX7_readQuery_43 : decode cX7_readQuery 43 = .ok (.if_icmp .ge 52, 3) := by decide +kernel
theorem dX7_readQuery_46 : decode cX7_readQuery 46 = .ok (.aload_n 0, 1) := by decide +kernel
theorem dX7_readQuery_47 : decode cX7_readQuery 47 = .ok (.getfield 12, 3) := by decide +kernel
theorem dX7_readQuery_50 : decode cX7_readQuery 50 = .ok (.aload_n 0, 1) := by decide +kernel
theorem dX7_readQuery_51 : decode cX7_readQuery 51 = .ok (.getfield 18, 3) := by decide +kernel
theorem dX7_readQuery_54 : decode cX7_readQuery 54 = .ok (.invokevirtual 61, 3) := by decide +kernel
theorem dX7_readQuery_57 : decode cX7_readQuery 57 = .ok (.bipush 35, 2) := by decide +kernel
theorem dX7_readQuery_59 : decode cX7_readQuery 59 = .ok (.if_icmp .eq 36, 3) := by decide +kernel
theorem dX7_readQuery_62 : decode cX7_readQuery 62 = .ok (.aload_n 1, 1) := by decide +kernel
theorem dX7_readQuery_63 : decode cX7_readQuery 63 = .ok (.getfield 207, 3) := by decide +kernel
theorem dX7_readQuery_66 : decode cX7_readQuery 66 = .ok (.aload_n 0, 1) := by decide +kernel
theorem dX7_readQuery_67 : decode cX7_readQuery 67 = .ok (.getfield 12, 3) := by decide +kernel
theorem dX7_readQuery_70 : decode cX7_readQuery 70 = .ok (.aload_n 0, 1) := by decide +kernel
theorem dX7_readQuery_71 : decode cX7_readQuery 71 = .ok (.getfield 18, 3) := by decide +kernel
theorem dX7_readQuery_74 : decode cX7_readQuery 74 = .ok (.invokevirtual 61, 3) := by decide +kernel
theorem dX7_readQuery_77 : decode cX7_readQuery 77 = .ok (.ldc 210, 2) := by decide +kernel
theorem dX7_readQuery_79 : decode cX7_readQuery 79 = .ok (.invokevirtual 168, 3) := by decide +kernel
theorem dX7_readQuery_82 : decode cX7_readQuery 82 = .ok (.aload_n 0, 1) := by decide +kernel
theorem dX7_readQuery_83 : decode cX7_readQuery 83 = .ok (.dup, 1) := by decide +kernel
theorem dX7_readQuery_84 : decode cX7_readQuery 84 = .ok (.getfield 18, 3) := by decide +kernel
theorem dX7_readQuery_87 : decode cX7_readQuery 87 = .ok (.iconst 1, 1) := by decide +kernel
theorem dX7_readQuery_88 : decode cX7_readQuery 88 = .ok (.iadd, 1) := by decide +kernel
theorem dX7_readQuery_89 : decode cX7_readQuery 89 = .ok (.putfield 18, 3) := by decide +kernel
theorem dX7_readQuery_92 : decode cX7_readQuery 92 = .ok (.goto (-60), 3) := by decide +kernel
theorem dX7_readQuery_95 : decode cX7_readQuery 95 = .ok (.return_, 1) := by decide +kernel
theorem dX7_readFragment_0 : decode cX7_readFragment 0 = .ok (.aload_n 0, 1) := by decide +kernel
theorem dX7_readFragment_1 : decode cX7_readFragment 1 = .ok (.getfield 12, 3) := by decide +kernel
theorem dX7_readFragment_4 : decode cX7_readFragment 4 = .ok (.aload_n 0, 1) := by decide +kernel
theorem dX7_readFragment_5 : decode cX7_readFragment 5 = .ok (.getfield 18, 3) := by decide +kernel
theorem dX7_readFragment_8 : decode cX7_readFragment 8 = .ok (.invokevirtual 61, 3) := by decide +kernel
theorem dX7_readFragment_11 : decode cX7_readFragment 11 = .ok (.bipush 35, 2) := by decide +kernel
theorem dX7_readFragment_13 : decode cX7_readFragment 13 = .ok (.if_icmp .eq 4, 3) := by decide +kernel
theorem dX7_readFragment_16 : decode cX7_readFragment 16 = .ok (.return_, 1) := by decide +kernel
theorem dX7_readFragment_17 : decode cX7_readFragment 17 = .ok (.aload_n 1, 1) := by decide +kernel
theorem dX7_readFragment_18 : decode cX7_readFragment 18 = .ok (.iconst 1, 1) := by decide +kernel
theorem dX7_readFragment_19 : decode cX7_readFragment 19 = .ok (.putfield 212, 3) := by decide +kernel
theorem dX7_readFragment_22 : decode cX7_readFragment 22 = .ok (.aload_n 0, 1) := by decide +kernel
theorem dX7_readFragment_23 : decode cX7_readFragment 23 = .ok (.getfield 18, 3) := by decide +kernel
theorem dX7_readFragment_26 : decode cX7_readFragment 26 = .ok (.iconst 1, 1) := by decide +kernel
theorem dX7_readFragment_27 : decode cX7_readFragment 27 = .ok (.iadd, 1) := by decide +kernel
theorem dX7_readFragment_28 : decode cX7_readFragment 28 = .ok (.istore_n 2, 1) := by decide +kernel
theorem dX7_readFragment_29 : decode cX7_readFragment 29 = .ok (.iload_n 2, 1) := by decide +kernel
theorem dX7_readFragment_30 : decode cX7_readFragment 30 = .ok (.aload_n 0, 1) := by decide +kernel
theorem dX7_readFragment_31 : decode cX7_readFragment 31 = .ok (.getfield 12, 3) := by decide +kernel
theorem dX7_readFragment_34 : decode cX7_readFragment 34 = .ok (.getfield 81, 3) := by decide +kernel
theorem dX7_readFragment_37 : decode cX7_readFragment 37 = .ok (.if_icmp .ge 26, 3) := by decide +kernel
theorem dX7_readFragment_40 : decode cX7_readFragment 40 = .ok (.aload_n 1, 1) := by decide +kernel
theorem dX7_readFragment_41 : decode cX7_readFragment 41 = .ok (.getfield 215, 3) := by decide +kernel
theorem dX7_readFragment_44 : decode cX7_readFragment 44 = .ok (.aload_n 0, 1) := by decide +kernel
theorem dX7_readFragment_45 : decode cX7_readFragment 45 = .ok (.getfield 12, 3) := by decide +kernel
theorem dX7_readFragment_48 : decode cX7_readFragment 48 = .ok (.iload_n 2, 1) := by decide +kernel
theorem dX7_readFragment_49 : decode cX7_readFragment 49 = .ok (.invokevirtual 61, 3) := by decide +kernel
theorem dX7_readFragment_52 : decode cX7_readFragment 52 = .ok (.ldc 218, 2) := by decide +kernel
theorem dX7_readFragment_54 : decode cX7_readFragment 54 = .ok (.invokevirtual 168, 3) := by decide +kernel
theorem dX7_readFragment_57 : decode cX7_readFragment 57 = .ok (.iinc 2 1, 3) := by decide +kernel
theorem dX7_readFragment_60 : decode cX7_readFragment 60 = .ok (.goto (-31), 3) := by decide +kernel
theorem dX7_readFragment_63 : decode cX7_readFragment 63 = .ok (.return_, 1) := by decide +kernel
theorem dX7_readUrl_0 : decode cX7_readUrl 0 = .ok (.aload_n 0, 1) := by decide +kernel
theorem dX7_readUrl_1 : decode cX7_readUrl 1 = .ok (.aload_n 1, 1) := by decide +kernel
theorem dX7_readUrl_2 : decode cX7_readUrl 2 = .ok (.invokevirtual 28, 3) := by decide +kernel
theorem dX7_readUrl_5 : decode cX7_readUrl 5 = .ok (.aload_n 3, 1) := by decide +kernel
theorem dX7_readUrl_6 : decode cX7_readUrl 6 = .ok (.invokevirtual 32, 3) := by decide +kernel
theorem dX7_readUrl_9 : decode cX7_readUrl 9 = .ok (.aload_n 0, 1) := by decide +kernel
theorem dX7_readUrl_10 : decode cX7_readUrl 10 = .ok (.aload_n 2, 1) := by decide +kernel
theorem dX7_readUrl_11 : decode cX7_readUrl 11 = .ok (.aload_n 3, 1) := by decide +kernel
theorem dX7_readUrl_12 : decode cX7_readUrl 12 = .ok (.invokevirtual 37, 3) := by decide +kernel
theorem dX7_readUrl_15 : decode cX7_readUrl 15 = .ok (.istore 5, 2) := by decide +kernel
theorem dX7_readUrl_17 : decode cX7_readUrl 17 = .ok (.iload 5, 2) := by decide +kernel
theorem dX7_readUrl_19 : decode cX7_readUrl 19 = .ok (.iconst 1, 1) := by decide +kernel
theorem dX7_readUrl_20 : decode cX7_readUrl 20 = .ok (.if_icmp .ne 15, 3) := by decide +kernel
theorem dX7_readUrl_23 : decode cX7_readUrl 23 = .ok (.aload_n 2, 1) := by decide +kernel
theorem dX7_readUrl_24 : decode cX7_readUrl 24 = .ok (.ifnull 11, 3) := by decide +kernel
theorem dX7_readUrl_27 : decode cX7_readUrl 27 = .ok (.aload_n 0, 1) := by decide +kernel
theorem dX7_readUrl_28 : decode cX7_readUrl 28 = .ok (.aload_n 2, 1) := by decide +kernel
theorem dX7_readUrl_29 : decode cX7_readUrl 29 = .ok (.aload_n 3, 1) := by decide +kernel
theorem dX7_readUrl_30 : decode cX7_readUrl 30 = .ok (.invokevirtual 41, 3) := by decide +kernel
theorem dX7_readUrl_33 : decode cX7_readUrl 33 = .ok (.istore 5, 2) := by decide +kernel
theorem dX7_readUrl_35 : decode cX7_readUrl 35 = .ok (.iload 5, 2) := by decide +kernel
theorem dX7_readUrl_37 : decode cX7_readUrl 37 = .ok (.iconst 2, 1) := by decide +kernel
theorem dX7_readUrl_38 : decode cX7_readUrl 38 = .ok (.if_icmp .ne 10, 3) := by decide +kernel
theorem dX7_readUrl_41 : decode cX7_readUrl 41 = .ok (.aload_n 0, 1) := by decide +kernel
theorem dX7_readUrl_42 : decode cX7_readUrl 42 = .ok (.aload_n 3, 1) := by decide +kernel
theorem dX7_readUrl_43 : decode cX7_readUrl 43 = .ok (.invokevirtual 44, 3) := by decide +kernel
theorem dX7_readUrl_46 : decode cX7_readUrl 46 = .ok (.istore 5, 2) := by decide +kernel
theorem dX7_readUrl_48 : decode cX7_readUrl 48 = .ok (.iload 5, 2) := by decide +kernel
theorem dX7_readUrl_50 : decode cX7_readUrl 50 = .ok (.iconst 3, 1) := by decide +kernel
theorem dX7_readUrl_51 : decode cX7_readUrl 51 = .ok (.if_icmp .ne 43, 3) := by decide +kernel
theorem dX7_readUrl_54 : decode cX7_readUrl 54 = .ok (.aload 4, 2) := by decide +kernel
theorem dX7_readUrl_56 : decode cX7_readUrl 56 = .ok (.aload_n 0, 1) := by decide +kernel
theorem dX7_readUrl_57 : decode cX7_readUrl 57 = .ok (.getfield 12, 3) := by decide +kernel
theorem dX7_readUrl_60 : decode cX7_readUrl 60 = .ok (.aload_n 0, 1) := by decide +kernel
theorem dX7_readUrl_61 : decode cX7_readUrl 61 = .ok (.getfield 22, 3) := by decide +kernel
theorem dX7_readUrl_64 : decode cX7_readUrl 64 = .ok (.aload_n 0, 1) := by decide +kernel
theorem dX7_readUrl_65 : decode cX7_readUrl 65 = .ok (.getfield 25, 3) := by decide +kernel
theorem dX7_readUrl_68 : decode cX7_readUrl 68 = .ok (.aload_n 3, 1) := by decide +kernel
theorem dX7_readUrl_69 : decode cX7_readUrl 69 = .ok (.getfield 48, 3) := by decide +kernel
theorem dX7_readUrl_72 : decode cX7_readUrl 72 = .ok (.invokevirtual 52, 3) := by decide +kernel
theorem dX7_readUrl_75 : decode cX7_readUrl 75 = .ok (.istore 6, 2) := by decide +kernel
theorem dX7_readUrl_77 : decode cX7_readUrl 77 = .ok (.iload 6, 2) := by decide +kernel
theorem dX7_readUrl_79 : decode cX7_readUrl 79 = .ok (.ifCond .eq 8, 3) := by decide +kernel
theorem dX7_readUrl_82 : decode cX7_readUrl 82 = .ok (.iload 6, 2) := by decide +kernel
theorem dX7_readUrl_84 : decode cX7_readUrl 84 = .ok (.goto 8, 3) := by decide +kernel
theorem dX7_readUrl_87 : decode cX7_readUrl 87 = .ok (.aload_n 0, 1) := by decide +kernel
theorem dX7_readUrl_88 : decode cX7_readUrl 88 = .ok (.aload_n 3, 1) := by decide +kernel
theorem dX7_readUrl_89 : decode cX7_readUrl 89 = .ok (.invokevirtual 58, 3) := by decide +kernel
theorem dX7_readUrl_92 : decode cX7_readUrl 92 = .ok (.istore 5, 2) := by decide +kernel
theorem dX7_readUrl_94 : decode cX7_readUrl 94 = .ok (.iload 5, 2) := by decide +kernel
theorem dX7_readUrl_96 : decode cX7_readUrl 96 = .ok (.ifCond .ge 6, 3) := by decide +kernel
theorem dX7_readUrl_99 : decode cX7_readUrl 99 = .ok (.iload 5, 2) := by decide +kernel
theorem dX7_readUrl_101 : decode cX7_readUrl 101 = .ok (.ireturn, 1) := by decide +kernel
theorem dX7_readUrl_102 : decode cX7_readUrl 102 = .ok (.iload 5, 2) := by decide +kernel
theorem dX7_readUrl_104 : decode cX7_readUrl 104 = .ok (.iconst 4, 1) := by decide +kernel
theorem dX7_readUrl_105 : decode cX7_readUrl 105 = .ok (.if_icmp .ne 30, 3) := by decide +kernel
theorem dX7_readUrl_108 : decode cX7_readUrl 108 = .ok (.aload_n 0, 1) := by decide +kernel
theorem dX7_readUrl_109 : decode cX7_readUrl 109 = .ok (.getfield 12, 3) := by decide +kernel
theorem dX7_readUrl_112 : decode cX7_readUrl 112 = .ok (.aload_n 0, 1) := by decide +kernel
theorem dX7_readUrl_113 : decode cX7_readUrl 113 = .ok (.getfield 18, 3) := by decide +kernel
theorem dX7_readUrl_116 : decode cX7_readUrl 116 = .ok (.invokevirtual 61, 3) := by decide +kernel
theorem dX7_readUrl_119 : decode cX7_readUrl 119 = .ok (.invokestatic 65, 3) := by decide +kernel
theorem dX7_readUrl_122 : decode cX7_readUrl 122 = .ok (.ifCond .eq 13, 3) := by decide +kernel
theorem dX7_readUrl_125 : decode cX7_readUrl 125 = .ok (.aload_n 0, 1) := by decide +kernel
theorem dX7_readUrl_126 : decode cX7_readUrl 126 = .ok (.dup, 1) := by decide +kernel
theorem dX7_readUrl_127 : decode cX7_readUrl 127 = .ok (.getfield 18, 3) := by decide +kernel
theorem dX7_readUrl_130 : decode cX7_readUrl 130 = .ok (.iconst 1, 1) := by decide +kernel
theorem dX7_readUrl_131 : decode cX7_readUrl 131 = .ok (.iadd, 1) := by decide +kernel
theorem dX7_readUrl_132 : decode cX7_readUrl 132 = .ok (.putfield 18, 3) := by decide +kernel
theorem dX7_readUrl_135 : decode cX7_readUrl 135 = .ok (.iload 5, 2) := by decide +kernel
theorem dX7_readUrl_137 : decode cX7_readUrl 137 = .ok (.iconst 4, 1) := by decide +kernel
theorem dX7_readUrl_138 : decode cX7_readUrl 138 = .ok (.if_icmp .eq 9, 3) := by decide +kernel
theorem dX7_readUrl_141 : decode cX7_readUrl 141 = .ok (.iload 5, 2) := by decide +kernel
theorem dX7_readUrl_143 : decode cX7_readUrl 143 = .ok (.iconst 5, 1) := by decide +kernel
theorem dX7_readUrl_144 : decode cX7_readUrl 144 = .ok (.if_icmp .ne 8, 3) := by decide +kernel
theorem dX7_readUrl_147 : decode cX7_readUrl 147 = .ok (.aload_n 0, 1) := by decide +kernel
theorem dX7_readUrl_148 : decode cX7_readUrl 148 = .ok (.aload_n 3, 1) := by decide +kernel
theorem dX7_readUrl_149 : decode cX7_readUrl 149 = .ok (.invokevirtual 71, 3) := by decide +kernel
theorem dX7_readUrl_152 : decode cX7_readUrl 152 = .ok (.aload_n 0, 1) := by decide +kernel
theorem dX7_readUrl_153 : decode cX7_readUrl 153 = .ok (.aload_n 3, 1) := by decide +kernel
theorem dX7_readUrl_154 : decode cX7_readUrl 154 = .ok (.invokevirtual 75, 3) := by decide +kernel
theorem dX7_readUrl_157 : decode cX7_readUrl 157 = .ok (.aload_n 0, 1) := by decide +kernel
theorem dX7_readUrl_158 : decode cX7_readUrl 158 = .ok (.aload_n 3, 1) := by decide +kernel
theorem dX7_readUrl_159 : decode cX7_readUrl 159 = .ok (.invokevirtual 78, 3) := by decide +kernel
theorem dX7_readUrl_162 : decode cX7_readUrl 162 = .ok (.iconst 0, 1) := by decide +kernel
theorem dX7_readUrl_163 : decode cX7_readUrl 163 = .ok (.ireturn, 1) := by decide +kernel
theorem dX6_hasUser_0 : decode cX6_hasUser 0 = .ok (.aload_n 0, 1) := by decide +kernel
theorem dX6_hasUser_1 : decode cX6_hasUser 1 = .ok (.getfield 22, 3) := by decide +kernel
theorem dX6_hasUser_4 : decode cX6_hasUser 4 = .ok (.getfield 89, 3) := by decide +kernel
theorem dX6_hasUser_7 : decode cX6_hasUser 7 = .ok (.ifCond .gt 13, 3) := by decide +kernel
theorem dX6_hasUser_10 : decode cX6_hasUser 10 = .ok (.aload_n 0, 1) := by decide +kernel
theorem dX6_hasUser_11 : decode cX6_hasUser 11 = .ok (.getfield 25, 3) := by decide +kernel
theorem dX6_hasUser_14 : decode cX6_hasUser 14 = .ok (.getfield 89, 3) := by decide +kernel
theorem dX6_hasUser_17 : decode cX6_hasUser 17 = .ok (.ifCond .le 7, 3) := by decide +kernel
theorem dX6_hasUser_20 : decode cX6_hasUser 20 = .ok (.iconst 1, 1) := by decide +kernel
theorem dX6_hasUser_21 : decode cX6_hasUser 21 = .ok (.goto 4, 3) := by decide +kernel
theorem dX6_hasUser_24 : decode cX6_hasUser 24 = .ok (.iconst 0, 1) := by decide +kernel
theorem dX6_hasUser_25 : decode cX6_hasUser 25 = .ok (.ireturn, 1) := by decide +kernel
theorem dX5_addRow_0 : decode cX5_addRow 0 = .ok (.aload_n 1, 1) := by decide +kernel
theorem dX5_addRow_1 : decode cX5_addRow 1 = .ok (.getfield 15, 3) := by decide +kernel
theorem dX5_addRow_4 : decode cX5_addRow 4 = .ok (.istore_n 2, 1) := by decide +kernel
theorem dX5_addRow_5 : decode cX5_addRow 5 = .ok (.iconst 0, 1) := by decide +kernel
theorem dX5_addRow_6 : decode cX5_addRow 6 = .ok (.istore_n 3, 1) := by decide +kernel
theorem dX5_addRow_7 : decode cX5_addRow 7 = .ok (.iload_n 3, 1) := by decide +kernel
theorem dX5_addRow_8 : decode cX5_addRow 8 = .ok (.iload_n 2, 1) := by decide +kernel
theorem dX5_addRow_9 : decode cX5_addRow 9 = .ok (.if_icmp .ge 18, 3) := by decide +kernel
theorem dX5_addRow_12 : decode cX5_addRow 12 = .ok (.aload_n 0, 1) := by decide +kernel
theorem dX5_addRow_13 : decode cX5_addRow 13 = .ok (.aload_n 1, 1) := by decide +kernel
theorem dX5_addRow_14 : decode cX5_addRow 14 = .ok (.iload_n 3, 1) := by decide +kernel
theorem dX5_addRow_15 : decode cX5_addRow 15 = .ok (.invokevirtual 25, 3) := by decide +kernel
theorem dX5_addRow_18 : decode cX5_addRow 18 = .ok (.invokevirtual 29, 3) := by decide +kernel
theorem dX5_addRow_21 : decode cX5_addRow 21 = .ok (.iinc 3 1, 3) := by decide +kernel
theorem dX5_addRow_24 : decode cX5_addRow 24 = .ok (.goto (-17), 3) := by decide +kernel
theorem dX5_addRow_27 : decode cX5_addRow 27 = .ok (.return_, 1) := by decide +kernel
theorem dX6_writeTo_0 : decode cX6_writeTo 0 = .ok (.aload_n 1, 1) := by decide +kernel
theorem dX6_writeTo_1 : decode cX6_writeTo 1 = .ok (.aload_n 0, 1) := by decide +kernel
theorem dX6_writeTo_2 : decode cX6_writeTo 2 = .ok (.getfield 18, 3) := by decide +kernel
theorem dX6_writeTo_5 : decode cX6_writeTo 5 = .ok (.invokevirtual 79, 3) := by decide +kernel
theorem dX6_writeTo_8 : decode cX6_writeTo 8 = .ok (.aload_n 1, 1) := by decide +kernel
theorem dX6_writeTo_9 : decode cX6_writeTo 9 = .ok (.ldc 110, 2) := by decide +kernel
theorem dX6_writeTo_11 : decode cX6_writeTo 11 = .ok (.invokevirtual 75, 3) := by decide +kernel
theorem dX6_writeTo_14 : decode cX6_writeTo 14 = .ok (.aload_n 0, 1) := by decide +kernel
theorem dX6_writeTo_15 : decode cX6_writeTo 15 = .ok (.invokevirtual 112, 3) := by decide +kernel
theorem dX6_writeTo_18 : decode cX6_writeTo 18 = .ok (.ifCond .eq 41, 3) := by decide +kernel
theorem dX6_writeTo_21 : decode cX6_writeTo 21 = .ok (.aload_n 1, 1) := by decide +kernel
theorem dX6_writeTo_22 : decode cX6_writeTo 22 = .ok (.aload_n 0, 1) := by decide +kernel
theorem dX6_writeTo_23 : decode cX6_writeTo 23 = .ok (.getfield 22, 3) := by decide +kernel
theorem dX6_writeTo_26 : decode cX6_writeTo 26 = .ok (.invokevirtual 116, 3) := by decide +kernel
theorem dX6_writeTo_29 : decode cX6_writeTo 29 = .ok (.aload_n 0, 1) := by decide +kernel
theorem dX6_writeTo_30 : decode cX6_writeTo 30 = .ok (.getfield 25, 3) := by decide +kernel
theorem dX6_writeTo_33 : decode cX6_writeTo 33 = .ok (.getfield 89, 3) := by decide +kernel
theorem dX6_writeTo_36 : decode cX6_writeTo 36 = .ok (.ifCond .le 17, 3) := by decide +kernel
theorem dX6_writeTo_39 : decode cX6_writeTo 39 = .ok (.aload_n 1, 1) := by decide +kernel
theorem dX6_writeTo_40 : decode cX6_writeTo 40 = .ok (.bipush 58, 2) := by decide +kernel
theorem dX6_writeTo_42 : decode cX6_writeTo 42 = .ok (.invokevirtual 86, 3) := by decide +kernel
theorem dX6_writeTo_45 : decode cX6_writeTo 45 = .ok (.aload_n 1, 1) := by decide +kernel
theorem dX6_writeTo_46 : decode cX6_writeTo 46 = .ok (.aload_n 0, 1) := by decide +kernel
theorem dX6_writeTo_47 : decode cX6_writeTo 47 = .ok (.getfield 25, 3) := by decide +kernel
theorem dX6_writeTo_50 : decode cX6_writeTo 50 = .ok (.invokevirtual 116, 3) := by decide +kernel
theorem dX6_writeTo_53 : decode cX6_writeTo 53 = .ok (.aload_n 1, 1) := by decide +kernel
theorem dX6_writeTo_54 : decode cX6_writeTo 54 = .ok (.bipush 64, 2) := by decide +kernel
theorem dX6_writeTo_56 : decode cX6_writeTo 56 = .ok (.invokevirtual 86, 3) := by decide +kernel
theorem dX6_writeTo_59 : decode cX6_writeTo 59 = .ok (.aload_n 1, 1) := by decide +kernel
theorem dX6_writeTo_60 : decode cX6_writeTo 60 = .ok (.aload_n 0, 1) := by decide +kernel
theorem dX6_writeTo_61 : decode cX6_writeTo 61 = .ok (.getfield 31, 3) := by decide +kernel
theorem dX6_writeTo_64 : decode cX6_writeTo 64 = .ok (.getfield 107, 3) := by decide +kernel
theorem dX6_writeTo_67 : decode cX6_writeTo 67 = .ok (.invokevirtual 116, 3) := by decide +kernel
theorem dX6_writeTo_70 : decode cX6_writeTo 70 = .ok (.aload_n 0, 1) := by decide +kernel
theorem dX6_writeTo_71 : decode cX6_writeTo 71 = .ok (.getfield 35, 3) := by decide +kernel
theorem dX6_writeTo_74 : decode cX6_writeTo 74 = .ok (.iconst (-1), 1) := by decide +kernel
theorem dX6_writeTo_75 : decode cX6_writeTo 75 = .ok (.if_icmp .eq 17, 3) := by decide +kernel
theorem dX6_writeTo_78 : decode cX6_writeTo 78 = .ok (.aload_n 1, 1) := by decide +kernel
theorem dX6_writeTo_79 : decode cX6_writeTo 79 = .ok (.bipush 58, 2) := by decide +kernel
theorem dX6_writeTo_81 : decode cX6_writeTo 81 = .ok (.invokevirtual 86, 3) := by decide +kernel
theorem dX6_writeTo_84 : decode cX6_writeTo 84 = .ok (.aload_n 1, 1) := by decide +kernel
theorem dX6_writeTo_85 : decode cX6_writeTo 85 = .ok (.aload_n 0, 1) := by decide +kernel
theorem dX6_writeTo_86 : decode cX6_writeTo 86 = .ok (.getfield 35, 3) := by decide +kernel
theorem dX6_writeTo_89 : decode cX6_writeTo 89 = .ok (.invokevirtual 119, 3) := by decide +kernel
theorem dX6_writeTo_92 : decode cX6_writeTo 92 = .ok (.aload_n 1, 1) := by decide +kernel
theorem dX6_writeTo_93 : decode cX6_writeTo 93 = .ok (.aload_n 0, 1) := by decide +kernel
theorem dX6_writeTo_94 : decode cX6_writeTo 94 = .ok (.getfield 38, 3) := by decide +kernel
theorem dX6_writeTo_97 : decode cX6_writeTo 97 = .ok (.invokevirtual 116, 3) := by decide +kernel
theorem dX6_writeTo_100 : decode cX6_writeTo 100 = .ok (.aload_n 0, 1) := by decide +kernel
theorem dX6_writeTo_101 : decode cX6_writeTo 101 = .ok (.getfield 47, 3) := by decide +kernel
theorem dX6_writeTo_104 : decode cX6_writeTo 104 = .ok (.ifCond .eq 17, 3) := by decide +kernel
theorem dX6_writeTo_107 : decode cX6_writeTo 107 = .ok (.aload_n 1, 1) := by decide +kernel
theorem dX6_writeTo_108 : decode cX6_writeTo 108 = .ok (.bipush 63, 2) := by decide +kernel
theorem dX6_writeTo_110 : decode cX6_writeTo 110 = .ok (.invokevirtual 86, 3) := by decide +kernel
theorem dX6_writeTo_113 : decode cX6_writeTo 113 = .ok (.aload_n 1, 1) := by decide +kernel
theorem dX6_writeTo_114 : decode cX6_writeTo 114 = .ok (.aload_n 0, 1) := by decide +kernel
theorem dX6_writeTo_115 : decode cX6_writeTo 115 = .ok (.getfield 44, 3) := by decide +kernel
theorem dX6_writeTo_118 : decode cX6_writeTo 118 = .ok (.invokevirtual 116, 3) := by decide +kernel
theorem dX6_writeTo_121 : decode cX6_writeTo 121 = .ok (.aload_n 0, 1) := by decide +kernel
theorem dX6_writeTo_122 : decode cX6_writeTo 122 = .ok (.getfield 54, 3) := by decide +kernel
theorem dX6_writeTo_125 : decode cX6_writeTo 125 = .ok (.ifCond .eq 17, 3) := by decide +kernel
theorem dX6_writeTo_128 : decode cX6_writeTo 128 = .ok (.aload_n 1, 1) := by decide +kernel
theorem dX6_writeTo_129 : decode cX6_writeTo 129 = .ok (.bipush 35, 2) := by decide +kernel
theorem dX6_writeTo_131 : decode cX6_writeTo 131 = .ok (.invokevirtual 86, 3) := by decide +kernel
theorem dX6_writeTo_134 : decode cX6_writeTo 134 = .ok (.aload_n 1, 1) := by decide +kernel
theorem dX6_writeTo_135 : decode cX6_writeTo 135 = .ok (.aload_n 0, 1) := by decide +kernel
theorem dX6_writeTo_136 : decode cX6_writeTo 136 = .ok (.getfield 51, 3) := by decide +kernel
theorem dX6_writeTo_139 : decode cX6_writeTo 139 = .ok (.invokevirtual 116, 3) := by decide +kernel
theorem dX6_writeTo_142 : decode cX6_writeTo 142 = .ok (.return_, 1) := by decide +kernel
def f_X6_portOf  (a0 : Int32) : gM Int32 := if a0 = 0 then (gp 80) else if a0 = 1 then (gp 80) else if a0 = 2 then (gp 443) else if a0 = 3 then (gp 443) else (gp 21)
section S_X6_portOf
variable {G : gX} {p : Program} {l : Launch} {e : Env} {s : State} {m : MethodId} {args : Array Value} {below : List Frame} {meth : Method} {c : Code} {mc ms : Nat} {y : Int32 × gS}
set_option maxHeartbeats 4000000 in
set_option maxRecDepth 100000 in
theorem w_X6_portOf_0 (C : gC G p s m args meth c cX6_portOf 1 RX6) (hr : meth.sig.returnType = (some .int))  (a0 : Int32) : gJ G p l e 0 0 mc ms s m args below meth c gri y 1 0 [(0, .int a0)] [] (f_X6_portOf  a0) := by
  have hx := C.1
  have hb := C.2.1
  intro σ H locs cells slots ls hf I hl
  unfold f_X6_portOf at hf
  refine lv_iload_n hx hb dX6_portOf_0 rfl (lv_at hl 0 rfl) ?_
  by_cases hq0 : a0 = 0
  · have hf := gift hq0 hf
    refine gw_sw (tgt := 32) hx hb dX6_portOf_1 hq0 (by decide) (by decide) rfl (by decide) ?_
    refine lv_bipush (v := 80) hx hb dX6_portOf_32 kc_b_80 ?_
    exact gw_iret C I hr dX6_portOf_34 hf
  have hf := giff hq0 hf
  by_cases hq1 : a0 = 1
  · have hf := gift hq1 hf
    refine gw_sw (tgt := 32) hx hb dX6_portOf_1 hq1 (by decide) (by decide) rfl (by decide) ?_
    refine lv_bipush (v := 80) hx hb dX6_portOf_32 kc_b_80 ?_
    exact gw_iret C I hr dX6_portOf_34 hf
  have hf := giff hq1 hf
  by_cases hq2 : a0 = 2
  · have hf := gift hq2 hf
    refine gw_sw (tgt := 35) hx hb dX6_portOf_1 hq2 (by decide) (by decide) rfl (by decide) ?_
    refine lv_sipush (v := 443) hx hb dX6_portOf_35 kc_s_443 ?_
    exact gw_iret C I hr dX6_portOf_38 hf
  have hf := giff hq2 hf
  by_cases hq3 : a0 = 3
  · have hf := gift hq3 hf
    refine gw_sw (tgt := 35) hx hb dX6_portOf_1 hq3 (by decide) (by decide) rfl (by decide) ?_
    refine lv_sipush (v := 443) hx hb dX6_portOf_35 kc_s_443 ?_
    exact gw_iret C I hr dX6_portOf_38 hf
  have hf := giff hq3 hf
  refine lv_tableOut (tgt := 39) hx hb dX6_portOf_1 (by have := lv_neT hq0 (a := 0) (by decide); have := lv_neT hq1 (a := 1) (by decide); have := lv_neT hq2 (a := 2) (by decide); have := lv_neT hq3 (a := 3) (by decide); omega) (by decide) ?_
  refine lv_bipush (v := 21) hx hb dX6_portOf_39 kc_b_21 ?_
  exact gw_iret C I hr dX6_portOf_41 hf
end S_X6_portOf
theorem m_X6_portOf (G : gX) (l : Launch) (a0 : Int32) : gMet G l yX6_portOf cX6_portOf 1 (some .int) 0 0 [.int a0] gri (f_X6_portOf a0) := by
  refine gMet_of (by decide) ?_
  intro σ y p e s m below meth c mc ms hf C hr hnm I
  obtain ⟨ls, e1, hl⟩ := gentry m [.int a0] 1 [(0, .int a0)] (by simp [lg_sl, grc, gcat_i, gcat_l]) (by simp [lv_args, grc, gcat_i, gcat_l])
  rw [e1]
  exact w_X6_portOf_0 C hr a0 _ _ _ _ _ _ hf I hl
def f_X7_readPort_85  (s0 : Option Nat) (s1 : Int32) : gM Int32 := gb (wI 5 5 s0 s1) fun _ => gp 4
def f_X7_readPort_9 (rec9 : Option Nat → Option Nat → Int32 → Int32 → gM Int32) (x0 : Option Nat) (x1 : Option Nat) (x2 : Int32) (x3 : Int32) : gM Int32 := gb (rI 6 1 x0) fun v1 => if v1 ≤ x3 then (gb (rI 5 0 x1) fun v2 => gb (f_X6_portOf v2) fun v3 => if x2 = v3 then (f_X7_readPort_85  x1 (-1)) else (f_X7_readPort_85  x1 x2)) else (gb (rR 6 0 x0) fun v4 => gb (nn 4 v4) fun _ => gb (f_X5_byteAt v4 x3) fun v5 => gb (f_X1_isDigit v5) fun v6 => if v6 = 0 then (gp (-17)) else (if (((10 * (if x2 < 0 then 0 else x2)) + v5) - 48) ≤ 65535 then (rec9 x0 x1 (((10 * (if x2 < 0 then 0 else x2)) + v5) - 48) (x3 + 1)) else (gp (-17))))
def f_X7_readPort_L9  : Nat → Option Nat → Option Nat → Int32 → Int32 → gM Int32
  | 0, _, _, _, _ => gno
  | n + 1, x0, x1, x2, x3 => f_X7_readPort_9  (f_X7_readPort_L9  n) x0 x1 x2 x3
def f_X7_readPort  (a0 : Option Nat) (a1 : Option Nat) : gM Int32 := gb (rI 6 3 a0) fun v1 => f_X7_readPort_L9  gF a0 a1 (-1) (v1 + 1)
section S_X7_readPort
variable {G : gX} {p : Program} {l : Launch} {e : Env} {s : State} {m : MethodId} {args : Array Value} {below : List Frame} {meth : Method} {c : Code} {mc ms : Nat} {y : Int32 × gS}
set_option maxHeartbeats 4000000 in
set_option maxRecDepth 100000 in
theorem w_X7_readPort_85 (C : gC G p s m args meth c cX7_readPort 5 RX7) (hr : meth.sig.returnType = (some .int))  (s0 : Option Nat) (s1 : Int32) : gJ G p l e 1 21 mc ms s m args below meth c gri y 5 85 [] [.int s1, va_rf s0] (f_X7_readPort_85  s0 s1) := by
  have hx := C.1
  have hb := C.2.1
  intro σ H locs cells slots ls hf I hl
  unfold f_X7_readPort_85 at hf
  refine gw_puti (k := 5) C I gcls_5 (by decide) rfl kw_141 (Or.inl rfl) (by decide +kernel) dX7_readPort_85 hf (fun σ H locs I hf => ?_)
  refine lv_iconst (v := 4) hx hb dX7_readPort_88 kc_i_4 ?_
  exact gw_iret C I hr dX7_readPort_89 hf
set_option maxHeartbeats 4000000 in
set_option maxRecDepth 100000 in
theorem w_X7_readPort_9 (C : gC G p s m args meth c cX7_readPort 5 RX7) (hr : meth.sig.returnType = (some .int)) {rec9 : Option Nat → Option Nat → Int32 → Int32 → gM Int32} (hrec9 : ∀ (x0 : Option Nat) (x1 : Option Nat) (x2 : Int32) (x3 : Int32), gJ G p l e 1 21 mc ms s m args below meth c gri y 5 9 [(0, va_rf x0), (1, va_rf x1), (2, .int x2), (3, .int x3)] [] (rec9 x0 x1 x2 x3)) (x0 : Option Nat) (x1 : Option Nat) (x2 : Int32) (x3 : Int32) : gJ G p l e 1 21 mc ms s m args below meth c gri y 5 9 [(0, va_rf x0), (1, va_rf x1), (2, .int x2), (3, .int x3)] [] (f_X7_readPort_9 rec9 x0 x1 x2 x3) := by
  have hx := C.1
  have hb := C.2.1
  intro σ H locs cells slots ls hf I hl
  unfold f_X7_readPort_9 at hf
  refine lv_iload_n hx hb dX7_readPort_9 rfl (lv_at hl 3 rfl) ?_
  refine gw_aload_n hx hb dX7_readPort_10 rfl (lv_at hl 0 rfl) ?_
  refine gw_geti (k := 1) C I gcls_6 (by decide) rfl kw_28 dX7_readPort_11 hf (fun v1 hf => ?_)
  refine lv_icmp_ge (tgt := 68) hx hb dX7_readPort_14 (by decide) (fun hq => ?_) (fun hq => ?_)
  · have hf := gift hq hf
    refine gw_aload_n hx hb dX7_readPort_68 rfl (lv_at hl 1 rfl) ?_
    refine lv_iload_n hx hb dX7_readPort_69 rfl (lv_at hl 2 rfl) ?_
    refine gw_aload_n hx hb dX7_readPort_70 rfl (lv_at hl 1 rfl) ?_
    refine gw_geti (k := 0) C I gcls_5 (by decide) rfl kw_113 dX7_readPort_71 hf (fun v2 hf => ?_)
    refine gw_callS (rest := [.int x2, va_rf x1]) C I hl.1 (m_X6_portOf G l v2) gl_RX7_178 kw_138 ⟨Nat.le_of_ble_eq_true rfl, Nat.le_of_ble_eq_true rfl⟩ rfl (gc4 (Nat.le_of_ble_eq_true rfl)) rfl dX7_readPort_74 hf (fun v3 σ H locs cells slots I hf => ?_)
    refine W.eq (g2 := F0 m 77 ls [.int v3, .int x2, va_rf x1]) rfl ?_
    refine lv_icmp_ne (tgt := 84) hx hb dX7_readPort_77 (by decide) (fun hq => ?_) (fun hq => ?_)
    · have hf := giff hq hf
      refine lv_iload_n hx hb dX7_readPort_84 rfl (lv_at hl 2 rfl) ?_
      exact w_X7_readPort_85 C hr  x1 x2 _ _ _ _ _ _ hf I (lv_sub hl [] rfl)
    · have hf := gift hq hf
      refine lv_iconst (v := (-1)) hx hb dX7_readPort_80 kc_i_m1 ?_
      refine lv_goto (tgt := 85) hx hb dX7_readPort_81 (by decide) ?_
      exact w_X7_readPort_85 C hr  x1 (-1) _ _ _ _ _ _ hf I (lv_sub hl [] rfl)
  · have hf := giff hq hf
    refine gw_aload_n hx hb dX7_readPort_17 rfl (lv_at hl 0 rfl) ?_
    refine gw_getr (k := 0) C I gcls_6 (by decide) rfl kw_27 dX7_readPort_18 hf (fun v4 hf => ?_)
    refine lv_iload_n hx hb dX7_readPort_21 rfl (lv_at hl 3 rfl) ?_
    refine gw_callV (rest := []) C I hl.1 gcls_4 (m_X5_byteAt G l v4 x3) gl_RX7_61 gn_X5_byteAt ⟨Nat.le_of_ble_eq_true rfl, Nat.le_of_ble_eq_true rfl⟩ rfl (gc4 (Nat.le_of_ble_eq_true rfl)) rfl dX7_readPort_22 hf (fun v5 σ H locs cells slots I hf => ?_)
    refine W.eq (g2 := F0 m 25 ls [.int v5]) rfl ?_
    refine lv_istore (lv' := [(4, .int v5), (0, va_rf x0), (1, va_rf x1), (2, .int x2), (3, .int x3)]) hx hb dX7_readPort_25 hl (by decide) rfl (fun ls hl => ?_)
    refine lv_iload hx hb dX7_readPort_27 (lv_at hl 0 rfl) ?_
    refine gw_callS (rest := []) C I hl.1 (m_X1_isDigit G l v5) gl_RX7_116 kw_102 ⟨Nat.le_of_ble_eq_true rfl, Nat.le_of_ble_eq_true rfl⟩ rfl (gc4 (Nat.le_of_ble_eq_true rfl)) rfl dX7_readPort_29 hf (fun v6 σ H locs cells slots I hf => ?_)
    refine W.eq (g2 := F0 m 32 ls [.int v6]) rfl ?_
    refine lv_if_ne (tgt := 38) hx hb dX7_readPort_32 (by decide) (fun hq => ?_) (fun hq => ?_)
    · have hf := giff hq hf
      refine lv_bipush (v := 10) hx hb dX7_readPort_38 kc_b_10 ?_
      refine lv_iload_n hx hb dX7_readPort_40 rfl (lv_at hl 3 rfl) ?_
      refine lv_iconst (v := 0) hx hb dX7_readPort_41 kc_i_0 ?_
      refine gw_mmax (rest := [.int 10]) C I hl.1 ⟨kw_139, kw_118, kw_92, kw_119⟩ ⟨Nat.le_of_ble_eq_true rfl, Nat.le_of_ble_eq_true rfl⟩ (gc4 (Nat.le_of_ble_eq_true rfl)) dX7_readPort_42 hf ?_
      refine lv_imul hx hb dX7_readPort_45 ?_
      refine lv_iload hx hb dX7_readPort_46 (lv_at hl 0 rfl) ?_
      refine lv_iadd hx hb dX7_readPort_48 ?_
      refine lv_bipush (v := 48) hx hb dX7_readPort_49 kc_b_48 ?_
      refine lv_isub hx hb dX7_readPort_51 ?_
      refine lv_istore_n (lv' := [(2, .int (((10 * (if x2 < 0 then 0 else x2)) + v5) - 48)), (4, .int v5), (0, va_rf x0), (1, va_rf x1), (3, .int x3)]) hx hb dX7_readPort_52 rfl hl (by decide) (by cases x1 <;> rfl) (fun ls hl => ?_)
      refine lv_iload_n hx hb dX7_readPort_53 rfl (lv_at hl 0 rfl) ?_
      refine gw_ldc C (v := 65535) kw_140 dX7_readPort_54 ?_
      refine lv_icmp_le (tgt := 62) hx hb dX7_readPort_56 (by decide) (fun hq => ?_) (fun hq => ?_)
      · have hf := gift hq hf
        refine lv_iinc (v := x3 + 1) (lv' := [(3, .int (x3 + 1)), (2, .int (((10 * (if x2 < 0 then 0 else x2)) + v5) - 48)), (4, .int v5), (0, va_rf x0), (1, va_rf x1)]) hx hb dX7_readPort_62 hl (k := 4) rfl rfl (by decide) rfl (fun ls hl => ?_)
        refine lv_goto (tgt := 9) hx hb dX7_readPort_65 (by decide) ?_
        exact hrec9 x0 x1 (((10 * (if x2 < 0 then 0 else x2)) + v5) - 48) (x3 + 1) _ _ _ _ _ _ hf I (lv_sub hl [3, 4, 1, 0] rfl)
      · have hf := giff hq hf
        refine lv_bipush (v := (-17)) hx hb dX7_readPort_59 kc_b_m17 ?_
        exact gw_iret C I hr dX7_readPort_61 hf
    · have hf := gift hq hf
      refine lv_bipush (v := (-17)) hx hb dX7_readPort_35 kc_b_m17 ?_
      exact gw_iret C I hr dX7_readPort_37 hf
theorem w_X7_readPort_L9 (C : gC G p s m args meth c cX7_readPort 5 RX7) (hr : meth.sig.returnType = (some .int))  : ∀ (n : Nat) (x0 : Option Nat) (x1 : Option Nat) (x2 : Int32) (x3 : Int32), gJ G p l e 1 21 mc ms s m args below meth c gri y 5 9 [(0, va_rf x0), (1, va_rf x1), (2, .int x2), (3, .int x3)] [] (f_X7_readPort_L9  n x0 x1 x2 x3) := by
  intro n
  induction n with
  | zero => intro x0 x1 x2 x3 σ H locs cells slots ls hf; exact (gno_some hf).elim
  | succ n ih => intro x0 x1 x2 x3; exact w_X7_readPort_9 C hr  ih x0 x1 x2 x3
set_option maxHeartbeats 4000000 in
set_option maxRecDepth 100000 in
theorem w_X7_readPort_0 (C : gC G p s m args meth c cX7_readPort 5 RX7) (hr : meth.sig.returnType = (some .int))  (a0 : Option Nat) (a1 : Option Nat) : gJ G p l e 1 21 mc ms s m args below meth c gri y 5 0 [(0, va_rf a0), (1, va_rf a1)] [] (f_X7_readPort  a0 a1) := by
  have hx := C.1
  have hb := C.2.1
  intro σ H locs cells slots ls hf I hl
  unfold f_X7_readPort at hf
  refine lv_iconst (v := (-1)) hx hb dX7_readPort_0 kc_i_m1 ?_
  refine lv_istore_n (lv' := [(2, .int (-1)), (0, va_rf a0), (1, va_rf a1)]) hx hb dX7_readPort_1 rfl hl (by decide) (by cases a1 <;> rfl) (fun ls hl => ?_)
  refine gw_aload_n hx hb dX7_readPort_2 rfl (lv_at hl 1 rfl) ?_
  refine gw_geti (k := 3) C I gcls_6 (by decide) rfl kw_30 dX7_readPort_3 hf (fun v1 hf => ?_)
  refine lv_iconst (v := 1) hx hb dX7_readPort_6 kc_i_1 ?_
  refine lv_iadd hx hb dX7_readPort_7 ?_
  refine lv_istore_n (lv' := [(3, .int (v1 + 1)), (2, .int (-1)), (0, va_rf a0), (1, va_rf a1)]) hx hb dX7_readPort_8 rfl hl (by decide) rfl (fun ls hl => ?_)
  exact w_X7_readPort_L9 C hr  _ a0 a1 (-1) (v1 + 1) _ _ _ _ _ _ hf I (lv_sub hl [2, 3, 1, 0] rfl)
end S_X7_readPort
theorem m_X7_readPort (G : gX) (l : Launch) (a0 : Option Nat) (a1 : Option Nat) : gMet G l yX7_readPort cX7_readPort 5 (some .int) 1 21 [va_rf a0, va_rf a1] gri (f_X7_readPort a0 a1) := by
  refine gMet_of (by decide) ?_
  intro σ y p e s m below meth c mc ms hf C hr hnm I
  obtain ⟨ls, e1, hl⟩ := gentry m [va_rf a0, va_rf a1] 5 [(0, va_rf a0), (1, va_rf a1)] (by simp [lg_sl, grc, gcat_i, gcat_l]) (by simp [lv_args, grc, gcat_i, gcat_l])
  rw [e1]
  exact w_X7_readPort_0 C hr a0 a1 _ _ _ _ _ _ hf I hl
def f_X7_pointsIn_5 (rec5 : Option Nat → Int32 → Int32 → Int32 → gM Int32) (x0 : Option Nat) (x2 : Int32) (x3 : Int32) (x4 : Int32) : gM Int32 := if x2 ≤ x4 then (if x3 ≤ 2 then (gp x3) else (gp 0)) else (gb (rR 6 0 x0) fun v1 => gb (nn 4 v1) fun _ => gb (f_X5_byteAt v1 x4) fun v2 => if v2 = 46 then (rec5 x0 x2 (x3 + 1) (x4 + 1)) else (if x2 < (x4 + 3) then (gp 0) else (gb (rR 6 0 x0) fun v3 => gb (nn 4 v3) fun _ => gb (f_X5_hasAt v3 x4 13) fun v4 => if v4 = 0 then (gb (rR 6 0 x0) fun v5 => gb (nn 4 v5) fun _ => gb (f_X5_hasAt v5 x4 14) fun v6 => if v6 = 0 then (gp 0) else (rec5 x0 x2 (x3 + 1) (x4 + 3))) else (rec5 x0 x2 (x3 + 1) (x4 + 3)))))
def f_X7_pointsIn_L5  : Nat → Option Nat → Int32 → Int32 → Int32 → gM Int32
  | 0, _, _, _, _ => gno
  | n + 1, x0, x2, x3, x4 => f_X7_pointsIn_5  (f_X7_pointsIn_L5  n) x0 x2 x3 x4
def f_X7_pointsIn  (a0 : Option Nat) (a1 : Int32) (a2 : Int32) : gM Int32 := f_X7_pointsIn_L5  gF a0 a2 0 a1
section S_X7_pointsIn
variable {G : gX} {p : Program} {l : Launch} {e : Env} {s : State} {m : MethodId} {args : Array Value} {below : List Frame} {meth : Method} {c : Code} {mc ms : Nat} {y : Int32 × gS}
set_option maxHeartbeats 4000000 in
set_option maxRecDepth 100000 in
theorem w_X7_pointsIn_5 (C : gC G p s m args meth c cX7_pointsIn 5 RX7) (hr : meth.sig.returnType = (some .int)) {rec5 : Option Nat → Int32 → Int32 → Int32 → gM Int32} (hrec5 : ∀ (x0 : Option Nat) (x2 : Int32) (x3 : Int32) (x4 : Int32), gJ G p l e 5 108 mc ms s m args below meth c gri y 5 5 [(0, va_rf x0), (2, .int x2), (3, .int x3), (4, .int x4)] [] (rec5 x0 x2 x3 x4)) (x0 : Option Nat) (x2 : Int32) (x3 : Int32) (x4 : Int32) : gJ G p l e 5 108 mc ms s m args below meth c gri y 5 5 [(0, va_rf x0), (2, .int x2), (3, .int x3), (4, .int x4)] [] (f_X7_pointsIn_5 rec5 x0 x2 x3 x4) := by
  have hx := C.1
  have hb := C.2.1
  intro σ H locs cells slots ls hf I hl
  unfold f_X7_pointsIn_5 at hf
  refine lv_iload hx hb dX7_pointsIn_5 (lv_at hl 3 rfl) ?_
  refine lv_iload_n hx hb dX7_pointsIn_7 rfl (lv_at hl 1 rfl) ?_
  refine lv_icmp_ge (tgt := 81) hx hb dX7_pointsIn_8 (by decide) (fun hq => ?_) (fun hq => ?_)
  · have hf := gift hq hf
    refine lv_iload_n hx hb dX7_pointsIn_81 rfl (lv_at hl 2 rfl) ?_
    refine lv_iconst (v := 2) hx hb dX7_pointsIn_82 kc_i_2 ?_
    refine lv_icmp_le (tgt := 90) hx hb dX7_pointsIn_83 (by decide) (fun hq => ?_) (fun hq => ?_)
    · have hf := gift hq hf
      refine lv_iload_n hx hb dX7_pointsIn_90 rfl (lv_at hl 2 rfl) ?_
      exact gw_iret C I hr dX7_pointsIn_91 hf
    · have hf := giff hq hf
      refine lv_iconst (v := 0) hx hb dX7_pointsIn_86 kc_i_0 ?_
      refine lv_goto (tgt := 91) hx hb dX7_pointsIn_87 (by decide) ?_
      exact gw_iret C I hr dX7_pointsIn_91 hf
  · have hf := giff hq hf
    refine gw_aload_n hx hb dX7_pointsIn_11 rfl (lv_at hl 0 rfl) ?_
    refine gw_getr (k := 0) C I gcls_6 (by decide) rfl kw_27 dX7_pointsIn_12 hf (fun v1 hf => ?_)
    refine lv_iload hx hb dX7_pointsIn_15 (lv_at hl 3 rfl) ?_
    refine gw_callV (rest := []) C I hl.1 gcls_4 (m_X5_byteAt G l v1 x4) gl_RX7_61 gn_X5_byteAt ⟨Nat.le_of_ble_eq_true rfl, Nat.le_of_ble_eq_true rfl⟩ rfl (gc4 (Nat.le_of_ble_eq_true rfl)) rfl dX7_pointsIn_17 hf (fun v2 σ H locs cells slots I hf => ?_)
    refine W.eq (g2 := F0 m 20 ls [.int v2]) rfl ?_
    refine lv_bipush (v := 46) hx hb dX7_pointsIn_20 kc_b_46 ?_
    refine lv_icmp_ne (tgt := 31) hx hb dX7_pointsIn_22 (by decide) (fun hq => ?_) (fun hq => ?_)
    · have hf := giff hq hf
      refine lv_iload hx hb dX7_pointsIn_31 (lv_at hl 3 rfl) ?_
      refine lv_iconst (v := 3) hx hb dX7_pointsIn_33 kc_i_3 ?_
      refine lv_iadd hx hb dX7_pointsIn_34 ?_
      refine lv_iload_n hx hb dX7_pointsIn_35 rfl (lv_at hl 1 rfl) ?_
      refine lv_icmp_gt (tgt := 73) hx hb dX7_pointsIn_36 (by decide) (fun hq => ?_) (fun hq => ?_)
      · have hf := gift hq hf
        refine lv_iconst (v := 0) hx hb dX7_pointsIn_73 kc_i_0 ?_
        exact gw_iret C I hr dX7_pointsIn_74 hf
      · have hf := giff hq hf
        refine gw_aload_n hx hb dX7_pointsIn_39 rfl (lv_at hl 0 rfl) ?_
        refine gw_getr (k := 0) C I gcls_6 (by decide) rfl kw_27 dX7_pointsIn_40 hf (fun v3 hf => ?_)
        refine lv_iload hx hb dX7_pointsIn_43 (lv_at hl 3 rfl) ?_
        refine gw_ldcs C 13 (tx := "%2e") rfl dX7_pointsIn_45 ?_
        refine gw_callV (rest := []) C I hl.1 gcls_4 (m_X5_hasAt G l v3 x4 13) gl_RX7_106 gn_X5_hasAt ⟨Nat.le_of_ble_eq_true rfl, Nat.le_of_ble_eq_true rfl⟩ rfl (gc4 (Nat.le_of_ble_eq_true rfl)) rfl dX7_pointsIn_47 hf (fun v4 σ H locs cells slots I hf => ?_)
        refine W.eq (g2 := F0 m 50 ls [.int v4]) rfl ?_
        refine lv_if_ne (tgt := 67) hx hb dX7_pointsIn_50 (by decide) (fun hq => ?_) (fun hq => ?_)
        · have hf := giff hq hf
          refine lv_iinc (v := x4 + 3) (lv' := [(4, .int (x4 + 3)), (0, va_rf x0), (2, .int x2), (3, .int x3)]) hx hb dX7_pointsIn_67 hl (k := 3) rfl rfl (by decide) rfl (fun ls hl => ?_)
          refine lv_goto (tgt := 75) hx hb dX7_pointsIn_70 (by decide) ?_
          refine lv_iinc (v := x3 + 1) (lv' := [(3, .int (x3 + 1)), (4, .int (x4 + 3)), (0, va_rf x0), (2, .int x2)]) hx hb dX7_pointsIn_75 hl (k := 3) rfl rfl (by decide) rfl (fun ls hl => ?_)
          refine lv_goto (tgt := 5) hx hb dX7_pointsIn_78 (by decide) ?_
          exact hrec5 x0 x2 (x3 + 1) (x4 + 3) _ _ _ _ _ _ hf I (lv_sub hl [2, 3, 0, 1] rfl)
        · have hf := gift hq hf
          refine gw_aload_n hx hb dX7_pointsIn_53 rfl (lv_at hl 0 rfl) ?_
          refine gw_getr (k := 0) C I gcls_6 (by decide) rfl kw_27 dX7_pointsIn_54 hf (fun v5 hf => ?_)
          refine lv_iload hx hb dX7_pointsIn_57 (lv_at hl 3 rfl) ?_
          refine gw_ldcs C 14 (tx := "%2E") rfl dX7_pointsIn_59 ?_
          refine gw_callV (rest := []) C I hl.1 gcls_4 (m_X5_hasAt G l v5 x4 14) gl_RX7_106 gn_X5_hasAt ⟨Nat.le_of_ble_eq_true rfl, Nat.le_of_ble_eq_true rfl⟩ rfl (gc4 (Nat.le_of_ble_eq_true rfl)) rfl dX7_pointsIn_61 hf (fun v6 σ H locs cells slots I hf => ?_)
          refine W.eq (g2 := F0 m 64 ls [.int v6]) rfl ?_
          refine lv_if_eq (tgt := 73) hx hb dX7_pointsIn_64 (by decide) (fun hq => ?_) (fun hq => ?_)
          · have hf := gift hq hf
            refine lv_iconst (v := 0) hx hb dX7_pointsIn_73 kc_i_0 ?_
            exact gw_iret C I hr dX7_pointsIn_74 hf
          · have hf := giff hq hf
            refine lv_iinc (v := x4 + 3) (lv' := [(4, .int (x4 + 3)), (0, va_rf x0), (2, .int x2), (3, .int x3)]) hx hb dX7_pointsIn_67 hl (k := 3) rfl rfl (by decide) rfl (fun ls hl => ?_)
            refine lv_goto (tgt := 75) hx hb dX7_pointsIn_70 (by decide) ?_
            refine lv_iinc (v := x3 + 1) (lv' := [(3, .int (x3 + 1)), (4, .int (x4 + 3)), (0, va_rf x0), (2, .int x2)]) hx hb dX7_pointsIn_75 hl (k := 3) rfl rfl (by decide) rfl (fun ls hl => ?_)
            refine lv_goto (tgt := 5) hx hb dX7_pointsIn_78 (by decide) ?_
            exact hrec5 x0 x2 (x3 + 1) (x4 + 3) _ _ _ _ _ _ hf I (lv_sub hl [2, 3, 0, 1] rfl)
    · have hf := gift hq hf
      refine lv_iinc (v := x4 + 1) (lv' := [(4, .int (x4 + 1)), (0, va_rf x0), (2, .int x2), (3, .int x3)]) hx hb dX7_pointsIn_25 hl (k := 3) rfl rfl (by decide) rfl (fun ls hl => ?_)
      refine lv_goto (tgt := 75) hx hb dX7_pointsIn_28 (by decide) ?_
      refine lv_iinc (v := x3 + 1) (lv' := [(3, .int (x3 + 1)), (4, .int (x4 + 1)), (0, va_rf x0), (2, .int x2)]) hx hb dX7_pointsIn_75 hl (k := 3) rfl rfl (by decide) rfl (fun ls hl => ?_)
      refine lv_goto (tgt := 5) hx hb dX7_pointsIn_78 (by decide) ?_
      exact hrec5 x0 x2 (x3 + 1) (x4 + 1) _ _ _ _ _ _ hf I (lv_sub hl [2, 3, 0, 1] rfl)
theorem w_X7_pointsIn_L5 (C : gC G p s m args meth c cX7_pointsIn 5 RX7) (hr : meth.sig.returnType = (some .int))  : ∀ (n : Nat) (x0 : Option Nat) (x2 : Int32) (x3 : Int32) (x4 : Int32), gJ G p l e 5 108 mc ms s m args below meth c gri y 5 5 [(0, va_rf x0), (2, .int x2), (3, .int x3), (4, .int x4)] [] (f_X7_pointsIn_L5  n x0 x2 x3 x4) := by
  intro n
  induction n with
  | zero => intro x0 x2 x3 x4 σ H locs cells slots ls hf; exact (gno_some hf).elim
  | succ n ih => intro x0 x2 x3 x4; exact w_X7_pointsIn_5 C hr  ih x0 x2 x3 x4
set_option maxHeartbeats 4000000 in
set_option maxRecDepth 100000 in
theorem w_X7_pointsIn_0 (C : gC G p s m args meth c cX7_pointsIn 5 RX7) (hr : meth.sig.returnType = (some .int))  (a0 : Option Nat) (a1 : Int32) (a2 : Int32) : gJ G p l e 5 108 mc ms s m args below meth c gri y 5 0 [(0, va_rf a0), (1, .int a1), (2, .int a2)] [] (f_X7_pointsIn  a0 a1 a2) := by
  have hx := C.1
  have hb := C.2.1
  intro σ H locs cells slots ls hf I hl
  unfold f_X7_pointsIn at hf
  refine lv_iconst (v := 0) hx hb dX7_pointsIn_0 kc_i_0 ?_
  refine lv_istore_n (lv' := [(3, .int 0), (0, va_rf a0), (1, .int a1), (2, .int a2)]) hx hb dX7_pointsIn_1 rfl hl (by decide) rfl (fun ls hl => ?_)
  refine lv_iload_n hx hb dX7_pointsIn_2 rfl (lv_at hl 2 rfl) ?_
  refine lv_istore (lv' := [(4, .int a1), (3, .int 0), (0, va_rf a0), (1, .int a1), (2, .int a2)]) hx hb dX7_pointsIn_3 hl (by decide) rfl (fun ls hl => ?_)
  exact w_X7_pointsIn_L5 C hr  _ a0 a2 0 a1 _ _ _ _ _ _ hf I (lv_sub hl [2, 4, 1, 0] rfl)
end S_X7_pointsIn
theorem m_X7_pointsIn (G : gX) (l : Launch) (a0 : Option Nat) (a1 : Int32) (a2 : Int32) : gMet G l yX7_pointsIn cX7_pointsIn 5 (some .int) 5 108 [va_rf a0, .int a1, .int a2] gri (f_X7_pointsIn a0 a1 a2) := by
  refine gMet_of (by decide) ?_
  intro σ y p e s m below meth c mc ms hf C hr hnm I
  obtain ⟨ls, e1, hl⟩ := gentry m [va_rf a0, .int a1, .int a2] 5 [(0, va_rf a0), (1, .int a1), (2, .int a2)] (by simp [lg_sl, grc, gcat_i, gcat_l]) (by simp [lv_args, grc, gcat_i, gcat_l])
  rw [e1]
  exact w_X7_pointsIn_0 C hr a0 a1 a2 _ _ _ _ _ _ hf I hl
def f_X6_beginSegment  (a0 : Option Nat) : gM Unit := gb (rR 5 6 a0) fun v1 => gb (nn 4 v1) fun _ => gb (f_X5_add v1 47) fun _ => gb (rI 5 7 a0) fun v2 => gb (wI 5 7 a0 (v2 + 1)) fun _ => gp ()
section S_X6_beginSegment
variable {G : gX} {p : Program} {l : Launch} {e : Env} {s : State} {m : MethodId} {args : Array Value} {below : List Frame} {meth : Method} {c : Code} {mc ms : Nat} {y : Unit × gS}
set_option maxHeartbeats 4000000 in
set_option maxRecDepth 100000 in
theorem w_X6_beginSegment_0 (C : gC G p s m args meth c cX6_beginSegment 1 RX6) (hr : meth.sig.returnType = none)  (a0 : Option Nat) : gJ G p l e 3 83 mc ms s m args below meth c grv y 1 0 [(0, va_rf a0)] [] (f_X6_beginSegment  a0) := by
  have hx := C.1
  have hb := C.2.1
  intro σ H locs cells slots ls hf I hl
  unfold f_X6_beginSegment at hf
  refine gw_aload_n hx hb dX6_beginSegment_0 rfl (lv_at hl 0 rfl) ?_
  refine gw_getr (k := 6) C I gcls_5 (by decide) rfl kw_57 dX6_beginSegment_1 hf (fun v1 hf => ?_)
  refine lv_bipush (v := 47) hx hb dX6_beginSegment_4 kc_b_47 ?_
  refine gw_callV (rest := []) C I hl.1 gcls_4 (m_X5_add G l v1 47) gl_RX6_86 gn_X5_add ⟨Nat.le_of_ble_eq_true rfl, Nat.le_of_ble_eq_true rfl⟩ rfl (gc4 (Nat.le_of_ble_eq_true rfl)) rfl dX6_beginSegment_6 hf (fun _ σ H locs cells slots I hf => ?_)
  refine W.eq (g2 := F0 m 9 ls []) rfl ?_
  refine gw_aload_n hx hb dX6_beginSegment_9 rfl (lv_at hl 0 rfl) ?_
  refine lv_dup hx hb dX6_beginSegment_10 (grc _) ?_
  refine gw_geti (k := 7) C I gcls_5 (by decide) rfl kw_58 dX6_beginSegment_11 hf (fun v2 hf => ?_)
  refine lv_iconst (v := 1) hx hb dX6_beginSegment_14 kc_i_1 ?_
  refine lv_iadd hx hb dX6_beginSegment_15 ?_
  refine gw_puti (k := 7) C I gcls_5 (by decide) rfl kw_58 (Or.inl rfl) (by decide +kernel) dX6_beginSegment_16 hf (fun σ H locs I hf => ?_)
  exact gw_vret C I hr dX6_beginSegment_19 hf
end S_X6_beginSegment
theorem m_X6_beginSegment (G : gX) (l : Launch) (a0 : Option Nat) : gMet G l yX6_beginSegment cX6_beginSegment 1 none 3 83 [va_rf a0] grv (f_X6_beginSegment a0) := by
  refine gMet_of (by decide) ?_
  intro σ y p e s m below meth c mc ms hf C hr hnm I
  obtain ⟨ls, e1, hl⟩ := gentry m [va_rf a0] 1 [(0, va_rf a0)] (by simp [lg_sl, grc, gcat_i, gcat_l]) (by simp [lv_args, grc, gcat_i, gcat_l])
  rw [e1]
  exact w_X6_beginSegment_0 C hr a0 _ _ _ _ _ _ hf I hl
def f_X7_takeSegment_36 (rec36 : Option Nat → Int32 → Option Nat → Int32 → Int32 → gM Unit) (x0 : Option Nat) (x2 : Int32) (x4 : Option Nat) (x5 : Int32) (x6 : Int32) : gM Unit := if x2 ≤ x6 then (gp ()) else (if x5 = 0 then (gb (rR 5 6 x4) fun v1 => gb (rR 6 0 x0) fun v2 => gb (nn 4 v2) fun _ => gb (f_X5_byteAt v2 x6) fun v3 => gb (nn 4 v1) fun _ => gb (f_X5_addEscaped v1 v3 15) fun _ => rec36 x0 x2 x4 x5 (x6 + 1)) else (gp ()))
def f_X7_takeSegment_L36  : Nat → Option Nat → Int32 → Option Nat → Int32 → Int32 → gM Unit
  | 0, _, _, _, _, _ => gno
  | n + 1, x0, x2, x4, x5, x6 => f_X7_takeSegment_36  (f_X7_takeSegment_L36  n) x0 x2 x4 x5 x6
def f_X7_takeSegment_28  (x0 : Option Nat) (x1 : Int32) (x2 : Int32) (x4 : Option Nat) (x5 : Int32) : gM Unit := gb (nn 5 x4) fun _ => gb (f_X6_beginSegment x4) fun _ => f_X7_takeSegment_L36  gF x0 x2 x4 x5 x1
def f_X7_takeSegment_19  (x0 : Option Nat) (x1 : Int32) (x2 : Int32) (x3 : Int32) (x4 : Option Nat) (x5 : Int32) : gM Unit := if x5 = 0 then (f_X7_takeSegment_28  x0 x1 x2 x4 x5) else (if x3 = 0 then (f_X7_takeSegment_28  x0 x1 x2 x4 x5) else (f_X7_takeSegment_L36  gF x0 x2 x4 x5 x1))
def f_X7_takeSegment  (a0 : Option Nat) (a1 : Int32) (a2 : Int32) (a3 : Int32) (a4 : Option Nat) : gM Unit := gb (nn 6 a0) fun _ => gb (f_X7_pointsIn a0 a1 a2) fun v1 => if v1 = 2 then (gb (nn 5 a4) fun _ => gb (f_X6_dropSegment a4) fun _ => f_X7_takeSegment_19  a0 a1 a2 a3 a4 v1) else (f_X7_takeSegment_19  a0 a1 a2 a3 a4 v1)
section S_X7_takeSegment
variable {G : gX} {p : Program} {l : Launch} {e : Env} {s : State} {m : MethodId} {args : Array Value} {below : List Frame} {meth : Method} {c : Code} {mc ms : Nat} {y : Unit × gS}
set_option maxHeartbeats 4000000 in
set_option maxRecDepth 100000 in
theorem w_X7_takeSegment_36 (C : gC G p s m args meth c cX7_takeSegment 7 RX7) (hr : meth.sig.returnType = none) {rec36 : Option Nat → Int32 → Option Nat → Int32 → Int32 → gM Unit} (hrec36 : ∀ (x0 : Option Nat) (x2 : Int32) (x4 : Option Nat) (x5 : Int32) (x6 : Int32), gJ G p l e 6 134 mc ms s m args below meth c grv y 7 36 [(0, va_rf x0), (2, .int x2), (4, va_rf x4), (5, .int x5), (6, .int x6)] [] (rec36 x0 x2 x4 x5 x6)) (x0 : Option Nat) (x2 : Int32) (x4 : Option Nat) (x5 : Int32) (x6 : Int32) : gJ G p l e 6 134 mc ms s m args below meth c grv y 7 36 [(0, va_rf x0), (2, .int x2), (4, va_rf x4), (5, .int x5), (6, .int x6)] [] (f_X7_takeSegment_36 rec36 x0 x2 x4 x5 x6) := by
  have hx := C.1
  have hb := C.2.1
  intro σ H locs cells slots ls hf I hl
  unfold f_X7_takeSegment_36 at hf
  refine lv_iload hx hb dX7_takeSegment_36 (lv_at hl 4 rfl) ?_
  refine lv_iload_n hx hb dX7_takeSegment_38 rfl (lv_at hl 1 rfl) ?_
  refine lv_icmp_ge (tgt := 72) hx hb dX7_takeSegment_39 (by decide) (fun hq => ?_) (fun hq => ?_)
  · have hf := gift hq hf
    exact gw_vret C I hr dX7_takeSegment_72 hf
  · have hf := giff hq hf
    refine lv_iload hx hb dX7_takeSegment_42 (lv_at hl 3 rfl) ?_
    refine lv_if_ne (tgt := 72) hx hb dX7_takeSegment_44 (by decide) (fun hq => ?_) (fun hq => ?_)
    · have hf := giff hq hf
      exact gw_vret C I hr dX7_takeSegment_72 hf
    · have hf := gift hq hf
      refine gw_aload hx hb dX7_takeSegment_47 (lv_at hl 2 rfl) ?_
      refine gw_getr (k := 6) C I gcls_5 (by decide) rfl kw_142 dX7_takeSegment_49 hf (fun v1 hf => ?_)
      refine gw_aload_n hx hb dX7_takeSegment_52 rfl (lv_at hl 0 rfl) ?_
      refine gw_getr (k := 0) C I gcls_6 (by decide) rfl kw_27 dX7_takeSegment_53 hf (fun v2 hf => ?_)
      refine lv_iload hx hb dX7_takeSegment_56 (lv_at hl 4 rfl) ?_
      refine gw_callV (rest := [va_rf v1]) C I hl.1 gcls_4 (m_X5_byteAt G l v2 x6) gl_RX7_61 gn_X5_byteAt ⟨Nat.le_of_ble_eq_true rfl, Nat.le_of_ble_eq_true rfl⟩ rfl (gc4 (Nat.le_of_ble_eq_true rfl)) rfl dX7_takeSegment_58 hf (fun v3 σ H locs cells slots I hf => ?_)
      refine W.eq (g2 := F0 m 61 ls [.int v3, va_rf v1]) rfl ?_
      refine gw_ldcs C 15 (tx := " \"#<>?^`{}") rfl dX7_takeSegment_61 ?_
      refine gw_callV (rest := []) C I hl.1 gcls_4 (m_X5_addEscaped G l v1 v3 15) gl_RX7_168 gn_X5_addEscaped ⟨Nat.le_of_ble_eq_true rfl, Nat.le_of_ble_eq_true rfl⟩ rfl (gc4 (Nat.le_of_ble_eq_true rfl)) rfl dX7_takeSegment_63 hf (fun _ σ H locs cells slots I hf => ?_)
      refine W.eq (g2 := F0 m 66 ls []) rfl ?_
      refine lv_iinc (v := x6 + 1) (lv' := [(6, .int (x6 + 1)), (0, va_rf x0), (2, .int x2), (4, va_rf x4), (5, .int x5)]) hx hb dX7_takeSegment_66 hl (k := 4) rfl rfl (by decide) rfl (fun ls hl => ?_)
      refine lv_goto (tgt := 36) hx hb dX7_takeSegment_69 (by decide) ?_
      exact hrec36 x0 x2 x4 x5 (x6 + 1) _ _ _ _ _ _ hf I (lv_sub hl [1, 2, 3, 4, 0] rfl)
theorem w_X7_takeSegment_L36 (C : gC G p s m args meth c cX7_takeSegment 7 RX7) (hr : meth.sig.returnType = none)  : ∀ (n : Nat) (x0 : Option Nat) (x2 : Int32) (x4 : Option Nat) (x5 : Int32) (x6 : Int32), gJ G p l e 6 134 mc ms s m args below meth c grv y 7 36 [(0, va_rf x0), (2, .int x2), (4, va_rf x4), (5, .int x5), (6, .int x6)] [] (f_X7_takeSegment_L36  n x0 x2 x4 x5 x6) := by
  intro n
  induction n with
  | zero => intro x0 x2 x4 x5 x6 σ H locs cells slots ls hf; exact (gno_some hf).elim
  | succ n ih => intro x0 x2 x4 x5 x6; exact w_X7_takeSegment_36 C hr  ih x0 x2 x4 x5 x6
set_option maxHeartbeats 4000000 in
set_option maxRecDepth 100000 in
theorem w_X7_takeSegment_28 (C : gC G p s m args meth c cX7_takeSegment 7 RX7) (hr : meth.sig.returnType = none)  (x0 : Option Nat) (x1 : Int32) (x2 : Int32) (x4 : Option Nat) (x5 : Int32) : gJ G p l e 6 134 mc ms s m args below meth c grv y 7 28 [(0, va_rf x0), (1, .int x1), (2, .int x2), (4, va_rf x4), (5, .int x5)] [] (f_X7_takeSegment_28  x0 x1 x2 x4 x5) := by
  have hx := C.1
  have hb := C.2.1
  intro σ H locs cells slots ls hf I hl
  unfold f_X7_takeSegment_28 at hf
  refine gw_aload hx hb dX7_takeSegment_28 (lv_at hl 3 rfl) ?_
  refine gw_callV (rest := []) C I hl.1 gcls_5 (m_X6_beginSegment G l x4) gl_RX7_191 gn_X6_beginSegment ⟨Nat.le_of_ble_eq_true rfl, Nat.le_of_ble_eq_true rfl⟩ rfl (gc4 (Nat.le_of_ble_eq_true rfl)) rfl dX7_takeSegment_30 hf (fun _ σ H locs cells slots I hf => ?_)
  refine W.eq (g2 := F0 m 33 ls []) rfl ?_
  refine lv_iload_n hx hb dX7_takeSegment_33 rfl (lv_at hl 1 rfl) ?_
  refine lv_istore (lv' := [(6, .int x1), (0, va_rf x0), (1, .int x1), (2, .int x2), (4, va_rf x4), (5, .int x5)]) hx hb dX7_takeSegment_34 hl (by decide) rfl (fun ls hl => ?_)
  exact w_X7_takeSegment_L36 C hr  _ x0 x2 x4 x5 x1 _ _ _ _ _ _ hf I (lv_sub hl [1, 3, 4, 5, 0] rfl)
set_option maxHeartbeats 4000000 in
set_option maxRecDepth 100000 in
theorem w_X7_takeSegment_19 (C : gC G p s m args meth c cX7_takeSegment 7 RX7) (hr : meth.sig.returnType = none)  (x0 : Option Nat) (x1 : Int32) (x2 : Int32) (x3 : Int32) (x4 : Option Nat) (x5 : Int32) : gJ G p l e 6 134 mc ms s m args below meth c grv y 7 19 [(0, va_rf x0), (1, .int x1), (2, .int x2), (3, .int x3), (4, va_rf x4), (5, .int x5)] [] (f_X7_takeSegment_19  x0 x1 x2 x3 x4 x5) := by
  have hx := C.1
  have hb := C.2.1
  intro σ H locs cells slots ls hf I hl
  unfold f_X7_takeSegment_19 at hf
  refine lv_iload hx hb dX7_takeSegment_19 (lv_at hl 5 rfl) ?_
  refine lv_if_eq (tgt := 28) hx hb dX7_takeSegment_21 (by decide) (fun hq => ?_) (fun hq => ?_)
  · have hf := gift hq hf
    exact w_X7_takeSegment_28 C hr  x0 x1 x2 x4 x5 _ _ _ _ _ _ hf I (lv_sub hl [0, 1, 2, 4, 5] rfl)
  · have hf := giff hq hf
    refine lv_iload_n hx hb dX7_takeSegment_24 rfl (lv_at hl 3 rfl) ?_
    refine lv_if_ne (tgt := 33) hx hb dX7_takeSegment_25 (by decide) (fun hq => ?_) (fun hq => ?_)
    · have hf := giff hq hf
      refine lv_iload_n hx hb dX7_takeSegment_33 rfl (lv_at hl 1 rfl) ?_
      refine lv_istore (lv' := [(6, .int x1), (0, va_rf x0), (1, .int x1), (2, .int x2), (3, .int x3), (4, va_rf x4), (5, .int x5)]) hx hb dX7_takeSegment_34 hl (by decide) rfl (fun ls hl => ?_)
      exact w_X7_takeSegment_L36 C hr  _ x0 x2 x4 x5 x1 _ _ _ _ _ _ hf I (lv_sub hl [1, 3, 5, 6, 0] rfl)
    · have hf := gift hq hf
      exact w_X7_takeSegment_28 C hr  x0 x1 x2 x4 x5 _ _ _ _ _ _ hf I (lv_sub hl [0, 1, 2, 4, 5] rfl)
set_option maxHeartbeats 4000000 in
set_option maxRecDepth 100000 in
theorem w_X7_takeSegment_0 (C : gC G p s m args meth c cX7_takeSegment 7 RX7) (hr : meth.sig.returnType = none)  (a0 : Option Nat) (a1 : Int32) (a2 : Int32) (a3 : Int32) (a4 : Option Nat) : gJ G p l e 6 134 mc ms s m args below meth c grv y 7 0 [(0, va_rf a0), (1, .int a1), (2, .int a2), (3, .int a3), (4, va_rf a4)] [] (f_X7_takeSegment  a0 a1 a2 a3 a4) := by
  have hx := C.1
  have hb := C.2.1
  intro σ H locs cells slots ls hf I hl
  unfold f_X7_takeSegment at hf
  refine gw_aload_n hx hb dX7_takeSegment_0 rfl (lv_at hl 0 rfl) ?_
  refine lv_iload_n hx hb dX7_takeSegment_1 rfl (lv_at hl 1 rfl) ?_
  refine lv_iload_n hx hb dX7_takeSegment_2 rfl (lv_at hl 2 rfl) ?_
  refine gw_callV (rest := []) C I hl.1 gcls_6 (m_X7_pointsIn G l a0 a1 a2) gl_RX7_188 gn_X7_pointsIn ⟨Nat.le_of_ble_eq_true rfl, Nat.le_of_ble_eq_true rfl⟩ rfl (gc4 (Nat.le_of_ble_eq_true rfl)) rfl dX7_takeSegment_3 hf (fun v1 σ H locs cells slots I hf => ?_)
  refine W.eq (g2 := F0 m 6 ls [.int v1]) rfl ?_
  refine lv_istore (lv' := [(5, .int v1), (0, va_rf a0), (1, .int a1), (2, .int a2), (3, .int a3), (4, va_rf a4)]) hx hb dX7_takeSegment_6 hl (by decide) (by cases a4 <;> rfl) (fun ls hl => ?_)
  refine lv_iload hx hb dX7_takeSegment_8 (lv_at hl 0 rfl) ?_
  refine lv_iconst (v := 2) hx hb dX7_takeSegment_10 kc_i_2 ?_
  refine lv_icmp_ne (tgt := 19) hx hb dX7_takeSegment_11 (by decide) (fun hq => ?_) (fun hq => ?_)
  · have hf := giff hq hf
    exact w_X7_takeSegment_19 C hr  a0 a1 a2 a3 a4 v1 _ _ _ _ _ _ hf I (lv_sub hl [1, 2, 3, 4, 5, 0] rfl)
  · have hf := gift hq hf
    refine gw_aload hx hb dX7_takeSegment_14 (lv_at hl 5 rfl) ?_
    refine gw_callV (rest := []) C I hl.1 gcls_5 (m_X6_dropSegment G l a4) gl_RX7_146 gn_X6_dropSegment ⟨Nat.le_of_ble_eq_true rfl, Nat.le_of_ble_eq_true rfl⟩ rfl (gc4 (Nat.le_of_ble_eq_true rfl)) rfl dX7_takeSegment_16 hf (fun _ σ H locs cells slots I hf => ?_)
    refine W.eq (g2 := F0 m 19 ls []) rfl ?_
    exact w_X7_takeSegment_19 C hr  a0 a1 a2 a3 a4 v1 _ _ _ _ _ _ hf I (lv_sub hl [1, 2, 3, 4, 5, 0] rfl)
end S_X7_takeSegment
theorem m_X7_takeSegment (G : gX) (l : Launch) (a0 : Option Nat) (a1 : Int32) (a2 : Int32) (a3 : Int32) (a4 : Option Nat) : gMet G l yX7_takeSegment cX7_takeSegment 7 none 6 134 [va_rf a0, .int a1, .int a2, .int a3, va_rf a4] grv (f_X7_takeSegment a0 a1 a2 a3 a4) := by
  refine gMet_of (by decide) ?_
  intro σ y p e s m below meth c mc ms hf C hr hnm I
  obtain ⟨ls, e1, hl⟩ := gentry m [va_rf a0, .int a1, .int a2, .int a3, va_rf a4] 7 [(0, va_rf a0), (1, .int a1), (2, .int a2), (3, .int a3), (4, va_rf a4)] (by simp [lg_sl, grc, gcat_i, gcat_l]) (by simp [lv_args, grc, gcat_i, gcat_l])
  rw [e1]
  exact w_X7_takeSegment_0 C hr a0 a1 a2 a3 a4 _ _ _ _ _ _ hf I hl
def f_X7_readSegments_58 (rec7 : Option Nat → Option Nat → Int32 → Int32 → gM Unit) (x0 : Option Nat) (x1 : Option Nat) (x2 : Int32) (x4 : Int32) : gM Unit := gb (rR 6 0 x0) fun v1 => gb (nn 4 v1) fun _ => gb (f_X5_byteAt v1 x4) fun v2 => gb (f_X1_isSlash v2) fun v3 => gb (nn 6 x0) fun _ => gb (f_X7_takeSegment x0 x2 x4 v3 x1) fun _ => gb (wI 6 1 x0 x4) fun _ => rec7 x0 x1 (x4 + 1) v3
def f_X7_readSegments_25 (rec7 : Option Nat → Option Nat → Int32 → Int32 → gM Unit) (rec25 : Option Nat → Option Nat → Int32 → Int32 → gM Unit) (x0 : Option Nat) (x1 : Option Nat) (x2 : Int32) (x4 : Int32) : gM Unit := gb (rR 6 0 x0) fun v1 => gb (rI 4 1 v1) fun v2 => if v2 ≤ x4 then (f_X7_readSegments_58 rec7 x0 x1 x2 x4) else (gb (rR 6 0 x0) fun v3 => gb (nn 4 v3) fun _ => gb (f_X5_byteAt v3 x4) fun v4 => gb (f_X1_isDivider v4) fun v5 => if v5 = 0 then (rec25 x0 x1 x2 (x4 + 1)) else (f_X7_readSegments_58 rec7 x0 x1 x2 x4))
def f_X7_readSegments_L25 (rec7 : Option Nat → Option Nat → Int32 → Int32 → gM Unit) : Nat → Option Nat → Option Nat → Int32 → Int32 → gM Unit
  | 0, _, _, _, _ => gno
  | n + 1, x0, x1, x2, x4 => f_X7_readSegments_25 rec7 (f_X7_readSegments_L25 rec7 n) x0 x1 x2 x4
def f_X7_readSegments_7 (rec7 : Option Nat → Option Nat → Int32 → Int32 → gM Unit) (x0 : Option Nat) (x1 : Option Nat) (x2 : Int32) (x3 : Int32) : gM Unit := if x3 = 0 then (gp ()) else (gb (rR 6 0 x0) fun v1 => gb (rI 4 1 v1) fun v2 => if v2 < x2 then (gp ()) else (f_X7_readSegments_L25 rec7 gF x0 x1 x2 x2))
def f_X7_readSegments_L7  : Nat → Option Nat → Option Nat → Int32 → Int32 → gM Unit
  | 0, _, _, _, _ => gno
  | n + 1, x0, x1, x2, x3 => f_X7_readSegments_7  (f_X7_readSegments_L7  n) x0 x1 x2 x3
def f_X7_readSegments  (a0 : Option Nat) (a1 : Option Nat) : gM Unit := gb (rI 6 1 a0) fun v1 => f_X7_readSegments_L7  gF a0 a1 v1 1
section S_X7_readSegments
variable {G : gX} {p : Program} {l : Launch} {e : Env} {s : State} {m : MethodId} {args : Array Value} {below : List Frame} {meth : Method} {c : Code} {mc ms : Nat} {y : Unit × gS}
set_option maxHeartbeats 4000000 in
set_option maxRecDepth 100000 in
theorem w_X7_readSegments_58 (C : gC G p s m args meth c cX7_readSegments 5 RX7) (hr : meth.sig.returnType = none) {rec7 : Option Nat → Option Nat → Int32 → Int32 → gM Unit} (hrec7 : ∀ (x0 : Option Nat) (x1 : Option Nat) (x2 : Int32) (x3 : Int32), gJ G p l e 7 160 mc ms s m args below meth c grv y 5 7 [(0, va_rf x0), (1, va_rf x1), (2, .int x2), (3, .int x3)] [] (rec7 x0 x1 x2 x3)) (x0 : Option Nat) (x1 : Option Nat) (x2 : Int32) (x4 : Int32) : gJ G p l e 7 160 mc ms s m args below meth c grv y 5 58 [(0, va_rf x0), (1, va_rf x1), (2, .int x2), (4, .int x4)] [] (f_X7_readSegments_58 rec7 x0 x1 x2 x4) := by
  have hx := C.1
  have hb := C.2.1
  intro σ H locs cells slots ls hf I hl
  unfold f_X7_readSegments_58 at hf
  refine gw_aload_n hx hb dX7_readSegments_58 rfl (lv_at hl 0 rfl) ?_
  refine gw_getr (k := 0) C I gcls_6 (by decide) rfl kw_27 dX7_readSegments_59 hf (fun v1 hf => ?_)
  refine lv_iload hx hb dX7_readSegments_62 (lv_at hl 3 rfl) ?_
  refine gw_callV (rest := []) C I hl.1 gcls_4 (m_X5_byteAt G l v1 x4) gl_RX7_61 gn_X5_byteAt ⟨Nat.le_of_ble_eq_true rfl, Nat.le_of_ble_eq_true rfl⟩ rfl (gc4 (Nat.le_of_ble_eq_true rfl)) rfl dX7_readSegments_64 hf (fun v2 σ H locs cells slots I hf => ?_)
  refine W.eq (g2 := F0 m 67 ls [.int v2]) rfl ?_
  refine gw_callS (rest := []) C I hl.1 (m_X1_isSlash G l v2) gl_RX7_65 kw_115 ⟨Nat.le_of_ble_eq_true rfl, Nat.le_of_ble_eq_true rfl⟩ rfl (gc4 (Nat.le_of_ble_eq_true rfl)) rfl dX7_readSegments_67 hf (fun v3 σ H locs cells slots I hf => ?_)
  refine W.eq (g2 := F0 m 70 ls [.int v3]) rfl ?_
  refine lv_istore_n (lv' := [(3, .int v3), (0, va_rf x0), (1, va_rf x1), (2, .int x2), (4, .int x4)]) hx hb dX7_readSegments_70 rfl hl (by decide) rfl (fun ls hl => ?_)
  refine gw_aload_n hx hb dX7_readSegments_71 rfl (lv_at hl 1 rfl) ?_
  refine lv_iload_n hx hb dX7_readSegments_72 rfl (lv_at hl 3 rfl) ?_
  refine lv_iload hx hb dX7_readSegments_73 (lv_at hl 4 rfl) ?_
  refine lv_iload_n hx hb dX7_readSegments_75 rfl (lv_at hl 0 rfl) ?_
  refine gw_aload_n hx hb dX7_readSegments_76 rfl (lv_at hl 2 rfl) ?_
  refine gw_callV (rest := []) C I hl.1 gcls_6 (m_X7_takeSegment G l x0 x2 x4 v3 x1) gl_RX7_184 gn_X7_takeSegment ⟨Nat.le_of_ble_eq_true rfl, Nat.le_of_ble_eq_true rfl⟩ rfl (gc4 (Nat.le_of_ble_eq_true rfl)) rfl dX7_readSegments_77 hf (fun _ σ H locs cells slots I hf => ?_)
  refine W.eq (g2 := F0 m 80 ls []) rfl ?_
  refine gw_aload_n hx hb dX7_readSegments_80 rfl (lv_at hl 1 rfl) ?_
  refine lv_iload hx hb dX7_readSegments_81 (lv_at hl 4 rfl) ?_
  refine gw_puti (k := 1) C I gcls_6 (by decide) rfl kw_28 (Or.inl rfl) (by decide +kernel) dX7_readSegments_83 hf (fun σ H locs I hf => ?_)
  refine lv_iload hx hb dX7_readSegments_86 (lv_at hl 4 rfl) ?_
  refine lv_iconst (v := 1) hx hb dX7_readSegments_88 kc_i_1 ?_
  refine lv_iadd hx hb dX7_readSegments_89 ?_
  refine lv_istore_n (lv' := [(2, .int (x4 + 1)), (3, .int v3), (0, va_rf x0), (1, va_rf x1), (4, .int x4)]) hx hb dX7_readSegments_90 rfl hl (by decide) (by cases x1 <;> rfl) (fun ls hl => ?_)
  refine lv_goto (tgt := 7) hx hb dX7_readSegments_91 (by decide) ?_
  exact hrec7 x0 x1 (x4 + 1) v3 _ _ _ _ _ _ hf I (lv_sub hl [2, 3, 0, 1] rfl)
set_option maxHeartbeats 4000000 in
set_option maxRecDepth 100000 in
theorem w_X7_readSegments_25 (C : gC G p s m args meth c cX7_readSegments 5 RX7) (hr : meth.sig.returnType = none) {rec7 : Option Nat → Option Nat → Int32 → Int32 → gM Unit} (hrec7 : ∀ (x0 : Option Nat) (x1 : Option Nat) (x2 : Int32) (x3 : Int32), gJ G p l e 7 160 mc ms s m args below meth c grv y 5 7 [(0, va_rf x0), (1, va_rf x1), (2, .int x2), (3, .int x3)] [] (rec7 x0 x1 x2 x3)) {rec25 : Option Nat → Option Nat → Int32 → Int32 → gM Unit} (hrec25 : ∀ (x0 : Option Nat) (x1 : Option Nat) (x2 : Int32) (x4 : Int32), gJ G p l e 7 160 mc ms s m args below meth c grv y 5 25 [(0, va_rf x0), (1, va_rf x1), (2, .int x2), (4, .int x4)] [] (rec25 x0 x1 x2 x4)) (x0 : Option Nat) (x1 : Option Nat) (x2 : Int32) (x4 : Int32) : gJ G p l e 7 160 mc ms s m args below meth c grv y 5 25 [(0, va_rf x0), (1, va_rf x1), (2, .int x2), (4, .int x4)] [] (f_X7_readSegments_25 rec7 rec25 x0 x1 x2 x4) := by
  have hx := C.1
  have hb := C.2.1
  intro σ H locs cells slots ls hf I hl
  unfold f_X7_readSegments_25 at hf
  refine lv_iload hx hb dX7_readSegments_25 (lv_at hl 3 rfl) ?_
  refine gw_aload_n hx hb dX7_readSegments_27 rfl (lv_at hl 0 rfl) ?_
  refine gw_getr (k := 0) C I gcls_6 (by decide) rfl kw_27 dX7_readSegments_28 hf (fun v1 hf => ?_)
  refine gw_geti (k := 1) C I gcls_4 (by decide) rfl kw_100 dX7_readSegments_31 hf (fun v2 hf => ?_)
  refine lv_icmp_ge (tgt := 58) hx hb dX7_readSegments_34 (by decide) (fun hq => ?_) (fun hq => ?_)
  · have hf := gift hq hf
    exact w_X7_readSegments_58 C hr hrec7 x0 x1 x2 x4 _ _ _ _ _ _ hf I (lv_sub hl [0, 1, 2, 3] rfl)
  · have hf := giff hq hf
    refine gw_aload_n hx hb dX7_readSegments_37 rfl (lv_at hl 0 rfl) ?_
    refine gw_getr (k := 0) C I gcls_6 (by decide) rfl kw_27 dX7_readSegments_38 hf (fun v3 hf => ?_)
    refine lv_iload hx hb dX7_readSegments_41 (lv_at hl 3 rfl) ?_
    refine gw_callV (rest := []) C I hl.1 gcls_4 (m_X5_byteAt G l v3 x4) gl_RX7_61 gn_X5_byteAt ⟨Nat.le_of_ble_eq_true rfl, Nat.le_of_ble_eq_true rfl⟩ rfl (gc4 (Nat.le_of_ble_eq_true rfl)) rfl dX7_readSegments_43 hf (fun v4 σ H locs cells slots I hf => ?_)
    refine W.eq (g2 := F0 m 46 ls [.int v4]) rfl ?_
    refine gw_callS (rest := []) C I hl.1 (m_X1_isDivider G l v4) gl_RX7_149 kw_126 ⟨Nat.le_of_ble_eq_true rfl, Nat.le_of_ble_eq_true rfl⟩ rfl (gc4 (Nat.le_of_ble_eq_true rfl)) rfl dX7_readSegments_46 hf (fun v5 σ H locs cells slots I hf => ?_)
    refine W.eq (g2 := F0 m 49 ls [.int v5]) rfl ?_
    refine lv_if_ne (tgt := 58) hx hb dX7_readSegments_49 (by decide) (fun hq => ?_) (fun hq => ?_)
    · have hf := giff hq hf
      exact w_X7_readSegments_58 C hr hrec7 x0 x1 x2 x4 _ _ _ _ _ _ hf I (lv_sub hl [0, 1, 2, 3] rfl)
    · have hf := gift hq hf
      refine lv_iinc (v := x4 + 1) (lv' := [(4, .int (x4 + 1)), (0, va_rf x0), (1, va_rf x1), (2, .int x2)]) hx hb dX7_readSegments_52 hl (k := 3) rfl rfl (by decide) rfl (fun ls hl => ?_)
      refine lv_goto (tgt := 25) hx hb dX7_readSegments_55 (by decide) ?_
      exact hrec25 x0 x1 x2 (x4 + 1) _ _ _ _ _ _ hf I (lv_sub hl [1, 2, 3, 0] rfl)
theorem w_X7_readSegments_L25 (C : gC G p s m args meth c cX7_readSegments 5 RX7) (hr : meth.sig.returnType = none) {rec7 : Option Nat → Option Nat → Int32 → Int32 → gM Unit} (hrec7 : ∀ (x0 : Option Nat) (x1 : Option Nat) (x2 : Int32) (x3 : Int32), gJ G p l e 7 160 mc ms s m args below meth c grv y 5 7 [(0, va_rf x0), (1, va_rf x1), (2, .int x2), (3, .int x3)] [] (rec7 x0 x1 x2 x3)) : ∀ (n : Nat) (x0 : Option Nat) (x1 : Option Nat) (x2 : Int32) (x4 : Int32), gJ G p l e 7 160 mc ms s m args below meth c grv y 5 25 [(0, va_rf x0), (1, va_rf x1), (2, .int x2), (4, .int x4)] [] (f_X7_readSegments_L25 rec7 n x0 x1 x2 x4) := by
  intro n
  induction n with
  | zero => intro x0 x1 x2 x4 σ H locs cells slots ls hf; exact (gno_some hf).elim
  | succ n ih => intro x0 x1 x2 x4; exact w_X7_readSegments_25 C hr hrec7 ih x0 x1 x2 x4
set_option maxHeartbeats 4000000 in
set_option maxRecDepth 100000 in
theorem w_X7_readSegments_7 (C : gC G p s m args meth c cX7_readSegments 5 RX7) (hr : meth.sig.returnType = none) {rec7 : Option Nat → Option Nat → Int32 → Int32 → gM Unit} (hrec7 : ∀ (x0 : Option Nat) (x1 : Option Nat) (x2 : Int32) (x3 : Int32), gJ G p l e 7 160 mc ms s m args below meth c grv y 5 7 [(0, va_rf x0), (1, va_rf x1), (2, .int x2), (3, .int x3)] [] (rec7 x0 x1 x2 x3)) (x0 : Option Nat) (x1 : Option Nat) (x2 : Int32) (x3 : Int32) : gJ G p l e 7 160 mc ms s m args below meth c grv y 5 7 [(0, va_rf x0), (1, va_rf x1), (2, .int x2), (3, .int x3)] [] (f_X7_readSegments_7 rec7 x0 x1 x2 x3) := by
  have hx := C.1
  have hb := C.2.1
  intro σ H locs cells slots ls hf I hl
  unfold f_X7_readSegments_7 at hf
  refine lv_iload_n hx hb dX7_readSegments_7 rfl (lv_at hl 3 rfl) ?_
  refine lv_if_eq (tgt := 94) hx hb dX7_readSegments_8 (by decide) (fun hq => ?_) (fun hq => ?_)
  · have hf := gift hq hf
    exact gw_vret C I hr dX7_readSegments_94 hf
  · have hf := giff hq hf
    refine lv_iload_n hx hb dX7_readSegments_11 rfl (lv_at hl 2 rfl) ?_
    refine gw_aload_n hx hb dX7_readSegments_12 rfl (lv_at hl 0 rfl) ?_
    refine gw_getr (k := 0) C I gcls_6 (by decide) rfl kw_27 dX7_readSegments_13 hf (fun v1 hf => ?_)
    refine gw_geti (k := 1) C I gcls_4 (by decide) rfl kw_100 dX7_readSegments_16 hf (fun v2 hf => ?_)
    refine lv_icmp_gt (tgt := 94) hx hb dX7_readSegments_19 (by decide) (fun hq => ?_) (fun hq => ?_)
    · have hf := gift hq hf
      exact gw_vret C I hr dX7_readSegments_94 hf
    · have hf := giff hq hf
      refine lv_iload_n hx hb dX7_readSegments_22 rfl (lv_at hl 2 rfl) ?_
      refine lv_istore (lv' := [(4, .int x2), (0, va_rf x0), (1, va_rf x1), (2, .int x2), (3, .int x3)]) hx hb dX7_readSegments_23 hl (by decide) rfl (fun ls hl => ?_)
      exact w_X7_readSegments_L25 C hr hrec7 _ x0 x1 x2 x2 _ _ _ _ _ _ hf I (lv_sub hl [1, 2, 3, 0] rfl)
theorem w_X7_readSegments_L7 (C : gC G p s m args meth c cX7_readSegments 5 RX7) (hr : meth.sig.returnType = none)  : ∀ (n : Nat) (x0 : Option Nat) (x1 : Option Nat) (x2 : Int32) (x3 : Int32), gJ G p l e 7 160 mc ms s m args below meth c grv y 5 7 [(0, va_rf x0), (1, va_rf x1), (2, .int x2), (3, .int x3)] [] (f_X7_readSegments_L7  n x0 x1 x2 x3) := by
  intro n
  induction n with
  | zero => intro x0 x1 x2 x3 σ H locs cells slots ls hf; exact (gno_some hf).elim
  | succ n ih => intro x0 x1 x2 x3; exact w_X7_readSegments_7 C hr  ih x0 x1 x2 x3
set_option maxHeartbeats 4000000 in
set_option maxRecDepth 100000 in
theorem w_X7_readSegments_0 (C : gC G p s m args meth c cX7_readSegments 5 RX7) (hr : meth.sig.returnType = none)  (a0 : Option Nat) (a1 : Option Nat) : gJ G p l e 7 160 mc ms s m args below meth c grv y 5 0 [(0, va_rf a0), (1, va_rf a1)] [] (f_X7_readSegments  a0 a1) := by
  have hx := C.1
  have hb := C.2.1
  intro σ H locs cells slots ls hf I hl
  unfold f_X7_readSegments at hf
  refine gw_aload_n hx hb dX7_readSegments_0 rfl (lv_at hl 0 rfl) ?_
  refine gw_geti (k := 1) C I gcls_6 (by decide) rfl kw_28 dX7_readSegments_1 hf (fun v1 hf => ?_)
  refine lv_istore_n (lv' := [(2, .int v1), (0, va_rf a0), (1, va_rf a1)]) hx hb dX7_readSegments_4 rfl hl (by decide) (by cases a1 <;> rfl) (fun ls hl => ?_)
  refine lv_iconst (v := 1) hx hb dX7_readSegments_5 kc_i_1 ?_
  refine lv_istore_n (lv' := [(3, .int 1), (2, .int v1), (0, va_rf a0), (1, va_rf a1)]) hx hb dX7_readSegments_6 rfl hl (by decide) rfl (fun ls hl => ?_)
  exact w_X7_readSegments_L7 C hr  _ a0 a1 v1 1 _ _ _ _ _ _ hf I (lv_sub hl [2, 3, 1, 0] rfl)
end S_X7_readSegments
theorem m_X7_readSegments (G : gX) (l : Launch) (a0 : Option Nat) (a1 : Option Nat) : gMet G l yX7_readSegments cX7_readSegments 5 none 7 160 [va_rf a0, va_rf a1] grv (f_X7_readSegments a0 a1) := by
  refine gMet_of (by decide) ?_
  intro σ y p e s m below meth c mc ms hf C hr hnm I
  obtain ⟨ls, e1, hl⟩ := gentry m [va_rf a0, va_rf a1] 5 [(0, va_rf a0), (1, va_rf a1)] (by simp [lg_sl, grc, gcat_i, gcat_l]) (by simp [lv_args, grc, gcat_i, gcat_l])
  rw [e1]
  exact w_X7_readSegments_0 C hr a0 a1 _ _ _ _ _ _ hf I hl
def f_X7_readQuery_32 (rec32 : Option Nat → Option Nat → gM Unit) (x0 : Option Nat) (x1 : Option Nat) : gM Unit := gb (rI 6 1 x0) fun v1 => gb (rR 6 0 x0) fun v2 => gb (rI 4 1 v2) fun v3 => if v3 ≤ v1 then (gp ()) else (gb (rR 6 0 x0) fun v4 => gb (rI 6 1 x0) fun v5 => gb (nn 4 v4) fun _ => gb (f_X5_byteAt v4 v5) fun v6 => if v6 = 35 then (gp ()) else (gb (rR 5 8 x1) fun v7 => gb (rR 6 0 x0) fun v8 => gb (rI 6 1 x0) fun v9 => gb (nn 4 v8) fun _ => gb (f_X5_byteAt v8 v9) fun v10 => gb (nn 4 v7) fun _ => gb (f_X5_addEscaped v7 v10 16) fun _ => gb (rI 6 1 x0) fun v11 => gb (wI 6 1 x0 (v11 + 1)) fun _ => rec32 x0 x1))
def f_X7_readQuery_L32  : Nat → Option Nat → Option Nat → gM Unit
  | 0, _, _ => gno
  | n + 1, x0, x1 => f_X7_readQuery_32  (f_X7_readQuery_L32  n) x0 x1
def f_X7_readQuery  (a0 : Option Nat) (a1 : Option Nat) : gM Unit := gb (rR 6 0 a0) fun v1 => gb (rI 6 1 a0) fun v2 => gb (nn 4 v1) fun _ => gb (f_X5_byteAt v1 v2) fun v3 => if v3 = 63 then (gb (wZ 5 9 a1 1) fun _ => gb (rI 6 1 a0) fun v4 => gb (wI 6 1 a0 (v4 + 1)) fun _ => f_X7_readQuery_L32  gF a0 a1) else (gp ())
section S_X7_readQuery
variable {G : gX} {p : Program} {l : Launch} {e : Env} {s : State} {m : MethodId} {args : Array Value} {below : List Frame} {meth : Method} {c : Code} {mc ms : Nat} {y : Unit × gS}
set_option maxHeartbeats 4000000 in
set_option maxRecDepth 100000 in
theorem w_X7_readQuery_32 (C : gC G p s m args meth c cX7_readQuery 2 RX7) (hr : meth.sig.returnType = none) {rec32 : Option Nat → Option Nat → gM Unit} (hrec32 : ∀ (x0 : Option Nat) (x1 : Option Nat), gJ G p l e 6 134 mc ms s m args below meth c grv y 2 32 [(0, va_rf x0), (1, va_rf x1)] [] (rec32 x0 x1)) (x0 : Option Nat) (x1 : Option Nat) : gJ G p l e 6 134 mc ms s m args below meth c grv y 2 32 [(0, va_rf x0), (1, va_rf x1)] [] (f_X7_readQuery_32 rec32 x0 x1) := by
  have hx := C.1
  have hb := C.2.1
  intro σ H locs cells slots ls hf I hl
  unfold f_X7_readQuery_32 at hf
  refine gw_aload_n hx hb dX7_readQuery_32 rfl (lv_at hl 0 rfl) ?_
  refine gw_geti (k := 1) C I gcls_6 (by decide) rfl kw_28 dX7_readQuery_33 hf (fun v1 hf => ?_)
  refine gw_aload_n hx hb dX7_readQuery_36 rfl (lv_at hl 0 rfl) ?_
  refine gw_getr (k := 0) C I gcls_6 (by decide) rfl kw_27 dX7_readQuery_37 hf (fun v2 hf => ?_)
  refine gw_geti (k := 1) C I gcls_4 (by decide) rfl kw_100 dX7_readQuery_40 hf (fun v3 hf => ?_)
  refine lv_icmp_ge (tgt := 95) hx hb dX7_readQuery_43 (by decide) (fun hq => ?_) (fun hq => ?_)
  · have hf := gift hq hf
    exact gw_vret C I hr dX7_readQuery_95 hf
  · have hf := giff hq hf
    refine gw_aload_n hx hb dX7_readQuery_46 rfl (lv_at hl 0 rfl) ?_
    refine gw_getr (k := 0) C I gcls_6 (by decide) rfl kw_27 dX7_readQuery_47 hf (fun v4 hf => ?_)
    refine gw_aload_n hx hb dX7_readQuery_50 rfl (lv_at hl 0 rfl) ?_
    refine gw_geti (k := 1) C I gcls_6 (by decide) rfl kw_28 dX7_readQuery_51 hf (fun v5 hf => ?_)
    refine gw_callV (rest := []) C I hl.1 gcls_4 (m_X5_byteAt G l v4 v5) gl_RX7_61 gn_X5_byteAt ⟨Nat.le_of_ble_eq_true rfl, Nat.le_of_ble_eq_true rfl⟩ rfl (gc4 (Nat.le_of_ble_eq_true rfl)) rfl dX7_readQuery_54 hf (fun v6 σ H locs cells slots I hf => ?_)
    refine W.eq (g2 := F0 m 57 ls [.int v6]) rfl ?_
    refine lv_bipush (v := 35) hx hb dX7_readQuery_57 kc_b_35 ?_
    refine lv_icmp_eq (tgt := 95) hx hb dX7_readQuery_59 (by decide) (fun hq => ?_) (fun hq => ?_)
    · have hf := gift hq hf
      exact gw_vret C I hr dX7_readQuery_95 hf
    · have hf := giff hq hf
      refine gw_aload_n hx hb dX7_readQuery_62 rfl (lv_at hl 1 rfl) ?_
      refine gw_getr (k := 8) C I gcls_5 (by decide) rfl kw_144 dX7_readQuery_63 hf (fun v7 hf => ?_)
      refine gw_aload_n hx hb dX7_readQuery_66 rfl (lv_at hl 0 rfl) ?_
      refine gw_getr (k := 0) C I gcls_6 (by decide) rfl kw_27 dX7_readQuery_67 hf (fun v8 hf => ?_)
      refine gw_aload_n hx hb dX7_readQuery_70 rfl (lv_at hl 0 rfl) ?_
      refine gw_geti (k := 1) C I gcls_6 (by decide) rfl kw_28 dX7_readQuery_71 hf (fun v9 hf => ?_)
      refine gw_callV (rest := [va_rf v7]) C I hl.1 gcls_4 (m_X5_byteAt G l v8 v9) gl_RX7_61 gn_X5_byteAt ⟨Nat.le_of_ble_eq_true rfl, Nat.le_of_ble_eq_true rfl⟩ rfl (gc4 (Nat.le_of_ble_eq_true rfl)) rfl dX7_readQuery_74 hf (fun v10 σ H locs cells slots I hf => ?_)
      refine W.eq (g2 := F0 m 77 ls [.int v10, va_rf v7]) rfl ?_
      refine gw_ldcs C 16 (tx := " \"#<>'") rfl dX7_readQuery_77 ?_
      refine gw_callV (rest := []) C I hl.1 gcls_4 (m_X5_addEscaped G l v7 v10 16) gl_RX7_168 gn_X5_addEscaped ⟨Nat.le_of_ble_eq_true rfl, Nat.le_of_ble_eq_true rfl⟩ rfl (gc4 (Nat.le_of_ble_eq_true rfl)) rfl dX7_readQuery_79 hf (fun _ σ H locs cells slots I hf => ?_)
      refine W.eq (g2 := F0 m 82 ls []) rfl ?_
      refine gw_aload_n hx hb dX7_readQuery_82 rfl (lv_at hl 0 rfl) ?_
      refine lv_dup hx hb dX7_readQuery_83 (grc _) ?_
      refine gw_geti (k := 1) C I gcls_6 (by decide) rfl kw_28 dX7_readQuery_84 hf (fun v11 hf => ?_)
      refine lv_iconst (v := 1) hx hb dX7_readQuery_87 kc_i_1 ?_
      refine lv_iadd hx hb dX7_readQuery_88 ?_
      refine gw_puti (k := 1) C I gcls_6 (by decide) rfl kw_28 (Or.inl rfl) (by decide +kernel) dX7_readQuery_89 hf (fun σ H locs I hf => ?_)
      refine lv_goto (tgt := 32) hx hb dX7_readQuery_92 (by decide) ?_
      exact hrec32 x0 x1 _ _ _ _ _ _ hf I (lv_sub hl [0, 1] rfl)
theorem w_X7_readQuery_L32 (C : gC G p s m args meth c cX7_readQuery 2 RX7) (hr : meth.sig.returnType = none)  : ∀ (n : Nat) (x0 : Option Nat) (x1 : Option Nat), gJ G p l e 6 134 mc ms s m args below meth c grv y 2 32 [(0, va_rf x0), (1, va_rf x1)] [] (f_X7_readQuery_L32  n x0 x1) := by
  intro n
  induction n with
  | zero => intro x0 x1 σ H locs cells slots ls hf; exact (gno_some hf).elim
  | succ n ih => intro x0 x1; exact w_X7_readQuery_32 C hr  ih x0 x1
set_option maxHeartbeats 4000000 in
set_option maxRecDepth 100000 in
theorem w_X7_readQuery_0 (C : gC G p s m args meth c cX7_readQuery 2 RX7) (hr : meth.sig.returnType = none)  (a0 : Option Nat) (a1 : Option Nat) : gJ G p l e 6 134 mc ms s m args below meth c grv y 2 0 [(0, va_rf a0), (1, va_rf a1)] [] (f_X7_readQuery  a0 a1) := by
  have hx := C.1
  have hb := C.2.1
  intro σ H locs cells slots ls hf I hl
  unfold f_X7_readQuery at hf
  refine gw_aload_n hx hb dX7_readQuery_0 rfl (lv_at hl 0 rfl) ?_
  refine gw_getr (k := 0) C I gcls_6 (by decide) rfl kw_27 dX7_readQuery_1 hf (fun v1 hf => ?_)
  refine gw_aload_n hx hb dX7_readQuery_4 rfl (lv_at hl 0 rfl) ?_
  refine gw_geti (k := 1) C I gcls_6 (by decide) rfl kw_28 dX7_readQuery_5 hf (fun v2 hf => ?_)
  refine gw_callV (rest := []) C I hl.1 gcls_4 (m_X5_byteAt G l v1 v2) gl_RX7_61 gn_X5_byteAt ⟨Nat.le_of_ble_eq_true rfl, Nat.le_of_ble_eq_true rfl⟩ rfl (gc4 (Nat.le_of_ble_eq_true rfl)) rfl dX7_readQuery_8 hf (fun v3 σ H locs cells slots I hf => ?_)
  refine W.eq (g2 := F0 m 11 ls [.int v3]) rfl ?_
  refine lv_bipush (v := 63) hx hb dX7_readQuery_11 kc_b_63 ?_
  refine lv_icmp_eq (tgt := 17) hx hb dX7_readQuery_13 (by decide) (fun hq => ?_) (fun hq => ?_)
  · have hf := gift hq hf
    refine gw_aload_n hx hb dX7_readQuery_17 rfl (lv_at hl 1 rfl) ?_
    refine lv_iconst (v := 1) hx hb dX7_readQuery_18 kc_i_1 ?_
    refine gw_putz (k := 9) C I gcls_5 (by decide) rfl kw_143 (Or.inl rfl) (by decide +kernel) dX7_readQuery_19 hf (fun σ H locs I hf => ?_)
    refine gw_aload_n hx hb dX7_readQuery_22 rfl (lv_at hl 0 rfl) ?_
    refine lv_dup hx hb dX7_readQuery_23 (grc _) ?_
    refine gw_geti (k := 1) C I gcls_6 (by decide) rfl kw_28 dX7_readQuery_24 hf (fun v4 hf => ?_)
    refine lv_iconst (v := 1) hx hb dX7_readQuery_27 kc_i_1 ?_
    refine lv_iadd hx hb dX7_readQuery_28 ?_
    refine gw_puti (k := 1) C I gcls_6 (by decide) rfl kw_28 (Or.inl rfl) (by decide +kernel) dX7_readQuery_29 hf (fun σ H locs I hf => ?_)
    exact w_X7_readQuery_L32 C hr  _ a0 a1 _ _ _ _ _ _ hf I (lv_sub hl [0, 1] rfl)
  · have hf := giff hq hf
    exact gw_vret C I hr dX7_readQuery_16 hf
end S_X7_readQuery
theorem m_X7_readQuery (G : gX) (l : Launch) (a0 : Option Nat) (a1 : Option Nat) : gMet G l yX7_readQuery cX7_readQuery 2 none 6 134 [va_rf a0, va_rf a1] grv (f_X7_readQuery a0 a1) := by
  refine gMet_of (by decide) ?_
  intro σ y p e s m below meth c mc ms hf C hr hnm I
  obtain ⟨ls, e1, hl⟩ := gentry m [va_rf a0, va_rf a1] 2 [(0, va_rf a0), (1, va_rf a1)] (by simp [lg_sl, grc, gcat_i, gcat_l]) (by simp [lv_args, grc, gcat_i, gcat_l])
  rw [e1]
  exact w_X7_readQuery_0 C hr a0 a1 _ _ _ _ _ _ hf I hl
def f_X7_readFragment_29 (rec29 : Option Nat → Option Nat → Int32 → gM Unit) (x0 : Option Nat) (x1 : Option Nat) (x2 : Int32) : gM Unit := gb (rR 6 0 x0) fun v1 => gb (rI 4 1 v1) fun v2 => if v2 ≤ x2 then (gp ()) else (gb (rR 5 10 x1) fun v3 => gb (rR 6 0 x0) fun v4 => gb (nn 4 v4) fun _ => gb (f_X5_byteAt v4 x2) fun v5 => gb (nn 4 v3) fun _ => gb (f_X5_addEscaped v3 v5 17) fun _ => rec29 x0 x1 (x2 + 1))
def f_X7_readFragment_L29  : Nat → Option Nat → Option Nat → Int32 → gM Unit
  | 0, _, _, _ => gno
  | n + 1, x0, x1, x2 => f_X7_readFragment_29  (f_X7_readFragment_L29  n) x0 x1 x2
def f_X7_readFragment  (a0 : Option Nat) (a1 : Option Nat) : gM Unit := gb (rR 6 0 a0) fun v1 => gb (rI 6 1 a0) fun v2 => gb (nn 4 v1) fun _ => gb (f_X5_byteAt v1 v2) fun v3 => if v3 = 35 then (gb (wZ 5 11 a1 1) fun _ => gb (rI 6 1 a0) fun v4 => f_X7_readFragment_L29  gF a0 a1 (v4 + 1)) else (gp ())
section S_X7_readFragment
variable {G : gX} {p : Program} {l : Launch} {e : Env} {s : State} {m : MethodId} {args : Array Value} {below : List Frame} {meth : Method} {c : Code} {mc ms : Nat} {y : Unit × gS}
set_option maxHeartbeats 4000000 in
set_option maxRecDepth 100000 in
theorem w_X7_readFragment_29 (C : gC G p s m args meth c cX7_readFragment 3 RX7) (hr : meth.sig.returnType = none) {rec29 : Option Nat → Option Nat → Int32 → gM Unit} (hrec29 : ∀ (x0 : Option Nat) (x1 : Option Nat) (x2 : Int32), gJ G p l e 6 134 mc ms s m args below meth c grv y 3 29 [(0, va_rf x0), (1, va_rf x1), (2, .int x2)] [] (rec29 x0 x1 x2)) (x0 : Option Nat) (x1 : Option Nat) (x2 : Int32) : gJ G p l e 6 134 mc ms s m args below meth c grv y 3 29 [(0, va_rf x0), (1, va_rf x1), (2, .int x2)] [] (f_X7_readFragment_29 rec29 x0 x1 x2) := by
  have hx := C.1
  have hb := C.2.1
  intro σ H locs cells slots ls hf I hl
  unfold f_X7_readFragment_29 at hf
  refine lv_iload_n hx hb dX7_readFragment_29 rfl (lv_at hl 2 rfl) ?_
  refine gw_aload_n hx hb dX7_readFragment_30 rfl (lv_at hl 0 rfl) ?_
  refine gw_getr (k := 0) C I gcls_6 (by decide) rfl kw_27 dX7_readFragment_31 hf (fun v1 hf => ?_)
  refine gw_geti (k := 1) C I gcls_4 (by decide) rfl kw_100 dX7_readFragment_34 hf (fun v2 hf => ?_)
  refine lv_icmp_ge (tgt := 63) hx hb dX7_readFragment_37 (by decide) (fun hq => ?_) (fun hq => ?_)
  · have hf := gift hq hf
    exact gw_vret C I hr dX7_readFragment_63 hf
  · have hf := giff hq hf
    refine gw_aload_n hx hb dX7_readFragment_40 rfl (lv_at hl 1 rfl) ?_
    refine gw_getr (k := 10) C I gcls_5 (by decide) rfl kw_146 dX7_readFragment_41 hf (fun v3 hf => ?_)
    refine gw_aload_n hx hb dX7_readFragment_44 rfl (lv_at hl 0 rfl) ?_
    refine gw_getr (k := 0) C I gcls_6 (by decide) rfl kw_27 dX7_readFragment_45 hf (fun v4 hf => ?_)
    refine lv_iload_n hx hb dX7_readFragment_48 rfl (lv_at hl 2 rfl) ?_
    refine gw_callV (rest := [va_rf v3]) C I hl.1 gcls_4 (m_X5_byteAt G l v4 x2) gl_RX7_61 gn_X5_byteAt ⟨Nat.le_of_ble_eq_true rfl, Nat.le_of_ble_eq_true rfl⟩ rfl (gc4 (Nat.le_of_ble_eq_true rfl)) rfl dX7_readFragment_49 hf (fun v5 σ H locs cells slots I hf => ?_)
    refine W.eq (g2 := F0 m 52 ls [.int v5, va_rf v3]) rfl ?_
    refine gw_ldcs C 17 (tx := " \"<>`") rfl dX7_readFragment_52 ?_
    refine gw_callV (rest := []) C I hl.1 gcls_4 (m_X5_addEscaped G l v3 v5 17) gl_RX7_168 gn_X5_addEscaped ⟨Nat.le_of_ble_eq_true rfl, Nat.le_of_ble_eq_true rfl⟩ rfl (gc4 (Nat.le_of_ble_eq_true rfl)) rfl dX7_readFragment_54 hf (fun _ σ H locs cells slots I hf => ?_)
    refine W.eq (g2 := F0 m 57 ls []) rfl ?_
    refine lv_iinc (v := x2 + 1) (lv' := [(2, .int (x2 + 1)), (0, va_rf x0), (1, va_rf x1)]) hx hb dX7_readFragment_57 hl (k := 2) rfl rfl (by decide) (by cases x1 <;> rfl) (fun ls hl => ?_)
    refine lv_goto (tgt := 29) hx hb dX7_readFragment_60 (by decide) ?_
    exact hrec29 x0 x1 (x2 + 1) _ _ _ _ _ _ hf I (lv_sub hl [1, 2, 0] rfl)
theorem w_X7_readFragment_L29 (C : gC G p s m args meth c cX7_readFragment 3 RX7) (hr : meth.sig.returnType = none)  : ∀ (n : Nat) (x0 : Option Nat) (x1 : Option Nat) (x2 : Int32), gJ G p l e 6 134 mc ms s m args below meth c grv y 3 29 [(0, va_rf x0), (1, va_rf x1), (2, .int x2)] [] (f_X7_readFragment_L29  n x0 x1 x2) := by
  intro n
  induction n with
  | zero => intro x0 x1 x2 σ H locs cells slots ls hf; exact (gno_some hf).elim
  | succ n ih => intro x0 x1 x2; exact w_X7_readFragment_29 C hr  ih x0 x1 x2
set_option maxHeartbeats 4000000 in
set_option maxRecDepth 100000 in
theorem w_X7_readFragment_0 (C : gC G p s m args meth c cX7_readFragment 3 RX7) (hr : meth.sig.returnType = none)  (a0 : Option Nat) (a1 : Option Nat) : gJ G p l e 6 134 mc ms s m args below meth c grv y 3 0 [(0, va_rf a0), (1, va_rf a1)] [] (f_X7_readFragment  a0 a1) := by
  have hx := C.1
  have hb := C.2.1
  intro σ H locs cells slots ls hf I hl
  unfold f_X7_readFragment at hf
  refine gw_aload_n hx hb dX7_readFragment_0 rfl (lv_at hl 0 rfl) ?_
  refine gw_getr (k := 0) C I gcls_6 (by decide) rfl kw_27 dX7_readFragment_1 hf (fun v1 hf => ?_)
  refine gw_aload_n hx hb dX7_readFragment_4 rfl (lv_at hl 0 rfl) ?_
  refine gw_geti (k := 1) C I gcls_6 (by decide) rfl kw_28 dX7_readFragment_5 hf (fun v2 hf => ?_)
  refine gw_callV (rest := []) C I hl.1 gcls_4 (m_X5_byteAt G l v1 v2) gl_RX7_61 gn_X5_byteAt ⟨Nat.le_of_ble_eq_true rfl, Nat.le_of_ble_eq_true rfl⟩ rfl (gc4 (Nat.le_of_ble_eq_true rfl)) rfl dX7_readFragment_8 hf (fun v3 σ H locs cells slots I hf => ?_)
  refine W.eq (g2 := F0 m 11 ls [.int v3]) rfl ?_
  refine lv_bipush (v := 35) hx hb dX7_readFragment_11 kc_b_35 ?_
  refine lv_icmp_eq (tgt := 17) hx hb dX7_readFragment_13 (by decide) (fun hq => ?_) (fun hq => ?_)
  · have hf := gift hq hf
    refine gw_aload_n hx hb dX7_readFragment_17 rfl (lv_at hl 1 rfl) ?_
    refine lv_iconst (v := 1) hx hb dX7_readFragment_18 kc_i_1 ?_
    refine gw_putz (k := 11) C I gcls_5 (by decide) rfl kw_145 (Or.inl rfl) (by decide +kernel) dX7_readFragment_19 hf (fun σ H locs I hf => ?_)
    refine gw_aload_n hx hb dX7_readFragment_22 rfl (lv_at hl 0 rfl) ?_
    refine gw_geti (k := 1) C I gcls_6 (by decide) rfl kw_28 dX7_readFragment_23 hf (fun v4 hf => ?_)
    refine lv_iconst (v := 1) hx hb dX7_readFragment_26 kc_i_1 ?_
    refine lv_iadd hx hb dX7_readFragment_27 ?_
    refine lv_istore_n (lv' := [(2, .int (v4 + 1)), (0, va_rf a0), (1, va_rf a1)]) hx hb dX7_readFragment_28 rfl hl (by decide) (by cases a1 <;> rfl) (fun ls hl => ?_)
    exact w_X7_readFragment_L29 C hr  _ a0 a1 (v4 + 1) _ _ _ _ _ _ hf I (lv_sub hl [1, 2, 0] rfl)
  · have hf := giff hq hf
    exact gw_vret C I hr dX7_readFragment_16 hf
end S_X7_readFragment
theorem m_X7_readFragment (G : gX) (l : Launch) (a0 : Option Nat) (a1 : Option Nat) : gMet G l yX7_readFragment cX7_readFragment 3 none 6 134 [va_rf a0, va_rf a1] grv (f_X7_readFragment a0 a1) := by
  refine gMet_of (by decide) ?_
  intro σ y p e s m below meth c mc ms hf C hr hnm I
  obtain ⟨ls, e1, hl⟩ := gentry m [va_rf a0, va_rf a1] 3 [(0, va_rf a0), (1, va_rf a1)] (by simp [lg_sl, grc, gcat_i, gcat_l]) (by simp [lv_args, grc, gcat_i, gcat_l])
  rw [e1]
  exact w_X7_readFragment_0 C hr a0 a1 _ _ _ _ _ _ hf I hl
def f_X7_readUrl_152  (x0 : Option Nat) (x3 : Option Nat) : gM Int32 := gb (nn 6 x0) fun _ => gb (f_X7_readQuery x0 x3) fun _ => gb (nn 6 x0) fun _ => gb (f_X7_readFragment x0 x3) fun _ => gp 0
def f_X7_readUrl_147  (x0 : Option Nat) (x3 : Option Nat) : gM Int32 := gb (nn 6 x0) fun _ => gb (f_X7_readSegments x0 x3) fun _ => f_X7_readUrl_152  x0 x3
def f_X7_readUrl_135  (x0 : Option Nat) (x3 : Option Nat) (x5 : Int32) : gM Int32 := if x5 = 4 then (f_X7_readUrl_147  x0 x3) else (if x5 = 5 then (f_X7_readUrl_147  x0 x3) else (f_X7_readUrl_152  x0 x3))
def f_X7_readUrl_94  (x0 : Option Nat) (x3 : Option Nat) (x5 : Int32) : gM Int32 := if 0 ≤ x5 then (if x5 = 4 then (gb (rR 6 0 x0) fun v1 => gb (rI 6 1 x0) fun v2 => gb (nn 4 v1) fun _ => gb (f_X5_byteAt v1 v2) fun v3 => gb (f_X1_isSlash v3) fun v4 => if v4 = 0 then (f_X7_readUrl_135  x0 x3 x5) else (gb (rI 6 1 x0) fun v5 => gb (wI 6 1 x0 (v5 + 1)) fun _ => f_X7_readUrl_135  x0 x3 x5)) else (f_X7_readUrl_135  x0 x3 x5)) else (gp x5)
def f_X7_readUrl_92  (x0 : Option Nat) (x3 : Option Nat) (s0 : Int32) : gM Int32 := f_X7_readUrl_94  x0 x3 s0
def f_X7_readUrl_48  (x0 : Option Nat) (x3 : Option Nat) (x4 : Option Nat) (x5 : Int32) : gM Int32 := if x5 = 3 then (gb (rR 6 0 x0) fun v1 => gb (rI 6 2 x0) fun v2 => gb (rI 6 3 x0) fun v3 => gb (rR 5 4 x3) fun v4 => gb (nn 3 x4) fun _ => gb (f_X4_readHost x4 v1 v2 v3 v4) fun v5 => if v5 = 0 then (gb (nn 6 x0) fun _ => gb (f_X7_readPort x0 x3) fun v6 => f_X7_readUrl_92  x0 x3 v6) else (f_X7_readUrl_92  x0 x3 v5)) else (f_X7_readUrl_94  x0 x3 x5)
def f_X7_readUrl_35  (x0 : Option Nat) (x3 : Option Nat) (x4 : Option Nat) (x5 : Int32) : gM Int32 := if x5 = 2 then (gb (nn 6 x0) fun _ => gb (f_X7_readAuthority x0 x3) fun v1 => f_X7_readUrl_48  x0 x3 x4 v1) else (f_X7_readUrl_48  x0 x3 x4 x5)
def f_X7_readUrl  (a0 : Option Nat) (a1 : Option Nat) (a2 : Option Nat) (a3 : Option Nat) (a4 : Option Nat) : gM Int32 := gb (nn 6 a0) fun _ => gb (f_X7_tidy a0 a1) fun _ => gb (nn 5 a3) fun _ => gb (f_X6_empty a3) fun _ => gb (nn 6 a0) fun _ => gb (f_X7_readScheme a0 a2 a3) fun v1 => if v1 = 1 then (if a2 = none then (f_X7_readUrl_35  a0 a3 a4 v1) else (gb (nn 6 a0) fun _ => gb (f_X7_readRelative a0 a2 a3) fun v2 => f_X7_readUrl_35  a0 a3 a4 v2)) else (f_X7_readUrl_35  a0 a3 a4 v1)
section S_X7_readUrl
variable {G : gX} {p : Program} {l : Launch} {e : Env} {s : State} {m : MethodId} {args : Array Value} {below : List Frame} {meth : Method} {c : Code} {mc ms : Nat} {y : Int32 × gS}
set_option maxHeartbeats 4000000 in
set_option maxRecDepth 100000 in
theorem w_X7_readUrl_152 (C : gC G p s m args meth c cX7_readUrl 7 RX7) (hr : meth.sig.returnType = (some .int))  (x0 : Option Nat) (x3 : Option Nat) : gJ G p l e 9 212 mc ms s m args below meth c gri y 7 152 [(0, va_rf x0), (3, va_rf x3)] [] (f_X7_readUrl_152  x0 x3) := by
  have hx := C.1
  have hb := C.2.1
  intro σ H locs cells slots ls hf I hl
  unfold f_X7_readUrl_152 at hf
  refine gw_aload_n hx hb dX7_readUrl_152 rfl (lv_at hl 0 rfl) ?_
  refine gw_aload_n hx hb dX7_readUrl_153 rfl (lv_at hl 1 rfl) ?_
  refine gw_callV (rest := []) C I hl.1 gcls_6 (m_X7_readQuery G l x0 x3) gl_RX7_75 gn_X7_readQuery ⟨Nat.le_of_ble_eq_true rfl, Nat.le_of_ble_eq_true rfl⟩ rfl (gc4 (Nat.le_of_ble_eq_true rfl)) rfl dX7_readUrl_154 hf (fun _ σ H locs cells slots I hf => ?_)
  refine W.eq (g2 := F0 m 157 ls []) rfl ?_
  refine gw_aload_n hx hb dX7_readUrl_157 rfl (lv_at hl 0 rfl) ?_
  refine gw_aload_n hx hb dX7_readUrl_158 rfl (lv_at hl 1 rfl) ?_
  refine gw_callV (rest := []) C I hl.1 gcls_6 (m_X7_readFragment G l x0 x3) gl_RX7_78 gn_X7_readFragment ⟨Nat.le_of_ble_eq_true rfl, Nat.le_of_ble_eq_true rfl⟩ rfl (gc4 (Nat.le_of_ble_eq_true rfl)) rfl dX7_readUrl_159 hf (fun _ σ H locs cells slots I hf => ?_)
  refine W.eq (g2 := F0 m 162 ls []) rfl ?_
  refine lv_iconst (v := 0) hx hb dX7_readUrl_162 kc_i_0 ?_
  exact gw_iret C I hr dX7_readUrl_163 hf
set_option maxHeartbeats 4000000 in
set_option maxRecDepth 100000 in
theorem w_X7_readUrl_147 (C : gC G p s m args meth c cX7_readUrl 7 RX7) (hr : meth.sig.returnType = (some .int))  (x0 : Option Nat) (x3 : Option Nat) : gJ G p l e 9 212 mc ms s m args below meth c gri y 7 147 [(0, va_rf x0), (3, va_rf x3)] [] (f_X7_readUrl_147  x0 x3) := by
  have hx := C.1
  have hb := C.2.1
  intro σ H locs cells slots ls hf I hl
  unfold f_X7_readUrl_147 at hf
  refine gw_aload_n hx hb dX7_readUrl_147 rfl (lv_at hl 0 rfl) ?_
  refine gw_aload_n hx hb dX7_readUrl_148 rfl (lv_at hl 1 rfl) ?_
  refine gw_callV (rest := []) C I hl.1 gcls_6 (m_X7_readSegments G l x0 x3) gl_RX7_71 gn_X7_readSegments ⟨Nat.le_of_ble_eq_true rfl, Nat.le_of_ble_eq_true rfl⟩ rfl (gc4 (Nat.le_of_ble_eq_true rfl)) rfl dX7_readUrl_149 hf (fun _ σ H locs cells slots I hf => ?_)
  refine W.eq (g2 := F0 m 152 ls []) rfl ?_
  exact w_X7_readUrl_152 C hr  x0 x3 _ _ _ _ _ _ hf I (lv_sub hl [0, 1] rfl)
set_option maxHeartbeats 4000000 in
set_option maxRecDepth 100000 in
theorem w_X7_readUrl_135 (C : gC G p s m args meth c cX7_readUrl 7 RX7) (hr : meth.sig.returnType = (some .int))  (x0 : Option Nat) (x3 : Option Nat) (x5 : Int32) : gJ G p l e 9 212 mc ms s m args below meth c gri y 7 135 [(0, va_rf x0), (3, va_rf x3), (5, .int x5)] [] (f_X7_readUrl_135  x0 x3 x5) := by
  have hx := C.1
  have hb := C.2.1
  intro σ H locs cells slots ls hf I hl
  unfold f_X7_readUrl_135 at hf
  refine lv_iload hx hb dX7_readUrl_135 (lv_at hl 2 rfl) ?_
  refine lv_iconst (v := 4) hx hb dX7_readUrl_137 kc_i_4 ?_
  refine lv_icmp_eq (tgt := 147) hx hb dX7_readUrl_138 (by decide) (fun hq => ?_) (fun hq => ?_)
  · have hf := gift hq hf
    exact w_X7_readUrl_147 C hr  x0 x3 _ _ _ _ _ _ hf I (lv_sub hl [0, 1] rfl)
  · have hf := giff hq hf
    refine lv_iload hx hb dX7_readUrl_141 (lv_at hl 2 rfl) ?_
    refine lv_iconst (v := 5) hx hb dX7_readUrl_143 kc_i_5 ?_
    refine lv_icmp_ne (tgt := 152) hx hb dX7_readUrl_144 (by decide) (fun hq => ?_) (fun hq => ?_)
    · have hf := giff hq hf
      exact w_X7_readUrl_152 C hr  x0 x3 _ _ _ _ _ _ hf I (lv_sub hl [0, 1] rfl)
    · have hf := gift hq hf
      exact w_X7_readUrl_147 C hr  x0 x3 _ _ _ _ _ _ hf I (lv_sub hl [0, 1] rfl)
set_option maxHeartbeats 4000000 in
set_option maxRecDepth 100000 in
theorem w_X7_readUrl_94 (C : gC G p s m args meth c cX7_readUrl 7 RX7) (hr : meth.sig.returnType = (some .int))  (x0 : Option Nat) (x3 : Option Nat) (x5 : Int32) : gJ G p l e 9 212 mc ms s m args below meth c gri y 7 94 [(0, va_rf x0), (3, va_rf x3), (5, .int x5)] [] (f_X7_readUrl_94  x0 x3 x5) := by
  have hx := C.1
  have hb := C.2.1
  intro σ H locs cells slots ls hf I hl
  unfold f_X7_readUrl_94 at hf
  refine lv_iload hx hb dX7_readUrl_94 (lv_at hl 2 rfl) ?_
  refine lv_if_ge (tgt := 102) hx hb dX7_readUrl_96 (by decide) (fun hq => ?_) (fun hq => ?_)
  · have hf := gift hq hf
    refine lv_iload hx hb dX7_readUrl_102 (lv_at hl 2 rfl) ?_
    refine lv_iconst (v := 4) hx hb dX7_readUrl_104 kc_i_4 ?_
    refine lv_icmp_ne (tgt := 135) hx hb dX7_readUrl_105 (by decide) (fun hq => ?_) (fun hq => ?_)
    · have hf := giff hq hf
      exact w_X7_readUrl_135 C hr  x0 x3 x5 _ _ _ _ _ _ hf I (lv_sub hl [0, 1, 2] rfl)
    · have hf := gift hq hf
      refine gw_aload_n hx hb dX7_readUrl_108 rfl (lv_at hl 0 rfl) ?_
      refine gw_getr (k := 0) C I gcls_6 (by decide) rfl kw_27 dX7_readUrl_109 hf (fun v1 hf => ?_)
      refine gw_aload_n hx hb dX7_readUrl_112 rfl (lv_at hl 0 rfl) ?_
      refine gw_geti (k := 1) C I gcls_6 (by decide) rfl kw_28 dX7_readUrl_113 hf (fun v2 hf => ?_)
      refine gw_callV (rest := []) C I hl.1 gcls_4 (m_X5_byteAt G l v1 v2) gl_RX7_61 gn_X5_byteAt ⟨Nat.le_of_ble_eq_true rfl, Nat.le_of_ble_eq_true rfl⟩ rfl (gc4 (Nat.le_of_ble_eq_true rfl)) rfl dX7_readUrl_116 hf (fun v3 σ H locs cells slots I hf => ?_)
      refine W.eq (g2 := F0 m 119 ls [.int v3]) rfl ?_
      refine gw_callS (rest := []) C I hl.1 (m_X1_isSlash G l v3) gl_RX7_65 kw_115 ⟨Nat.le_of_ble_eq_true rfl, Nat.le_of_ble_eq_true rfl⟩ rfl (gc4 (Nat.le_of_ble_eq_true rfl)) rfl dX7_readUrl_119 hf (fun v4 σ H locs cells slots I hf => ?_)
      refine W.eq (g2 := F0 m 122 ls [.int v4]) rfl ?_
      refine lv_if_eq (tgt := 135) hx hb dX7_readUrl_122 (by decide) (fun hq => ?_) (fun hq => ?_)
      · have hf := gift hq hf
        exact w_X7_readUrl_135 C hr  x0 x3 x5 _ _ _ _ _ _ hf I (lv_sub hl [0, 1, 2] rfl)
      · have hf := giff hq hf
        refine gw_aload_n hx hb dX7_readUrl_125 rfl (lv_at hl 0 rfl) ?_
        refine lv_dup hx hb dX7_readUrl_126 (grc _) ?_
        refine gw_geti (k := 1) C I gcls_6 (by decide) rfl kw_28 dX7_readUrl_127 hf (fun v5 hf => ?_)
        refine lv_iconst (v := 1) hx hb dX7_readUrl_130 kc_i_1 ?_
        refine lv_iadd hx hb dX7_readUrl_131 ?_
        refine gw_puti (k := 1) C I gcls_6 (by decide) rfl kw_28 (Or.inl rfl) (by decide +kernel) dX7_readUrl_132 hf (fun σ H locs I hf => ?_)
        exact w_X7_readUrl_135 C hr  x0 x3 x5 _ _ _ _ _ _ hf I (lv_sub hl [0, 1, 2] rfl)
  · have hf := giff hq hf
    refine lv_iload hx hb dX7_readUrl_99 (lv_at hl 2 rfl) ?_
    exact gw_iret C I hr dX7_readUrl_101 hf
set_option maxHeartbeats 4000000 in
set_option maxRecDepth 100000 in
theorem w_X7_readUrl_92 (C : gC G p s m args meth c cX7_readUrl 7 RX7) (hr : meth.sig.returnType = (some .int))  (x0 : Option Nat) (x3 : Option Nat) (s0 : Int32) : gJ G p l e 9 212 mc ms s m args below meth c gri y 7 92 [(0, va_rf x0), (3, va_rf x3)] [.int s0] (f_X7_readUrl_92  x0 x3 s0) := by
  have hx := C.1
  have hb := C.2.1
  intro σ H locs cells slots ls hf I hl
  unfold f_X7_readUrl_92 at hf
  refine lv_istore (lv' := [(5, .int s0), (0, va_rf x0), (3, va_rf x3)]) hx hb dX7_readUrl_92 hl (by decide) rfl (fun ls hl => ?_)
  exact w_X7_readUrl_94 C hr  x0 x3 s0 _ _ _ _ _ _ hf I (lv_sub hl [1, 2, 0] rfl)
set_option maxHeartbeats 4000000 in
set_option maxRecDepth 100000 in
theorem w_X7_readUrl_48 (C : gC G p s m args meth c cX7_readUrl 7 RX7) (hr : meth.sig.returnType = (some .int))  (x0 : Option Nat) (x3 : Option Nat) (x4 : Option Nat) (x5 : Int32) : gJ G p l e 9 212 mc ms s m args below meth c gri y 7 48 [(0, va_rf x0), (3, va_rf x3), (4, va_rf x4), (5, .int x5)] [] (f_X7_readUrl_48  x0 x3 x4 x5) := by
  have hx := C.1
  have hb := C.2.1
  intro σ H locs cells slots ls hf I hl
  unfold f_X7_readUrl_48 at hf
  refine lv_iload hx hb dX7_readUrl_48 (lv_at hl 3 rfl) ?_
  refine lv_iconst (v := 3) hx hb dX7_readUrl_50 kc_i_3 ?_
  refine lv_icmp_ne (tgt := 94) hx hb dX7_readUrl_51 (by decide) (fun hq => ?_) (fun hq => ?_)
  · have hf := giff hq hf
    exact w_X7_readUrl_94 C hr  x0 x3 x5 _ _ _ _ _ _ hf I (lv_sub hl [0, 1, 3] rfl)
  · have hf := gift hq hf
    refine gw_aload hx hb dX7_readUrl_54 (lv_at hl 2 rfl) ?_
    refine gw_aload_n hx hb dX7_readUrl_56 rfl (lv_at hl 0 rfl) ?_
    refine gw_getr (k := 0) C I gcls_6 (by decide) rfl kw_27 dX7_readUrl_57 hf (fun v1 hf => ?_)
    refine gw_aload_n hx hb dX7_readUrl_60 rfl (lv_at hl 0 rfl) ?_
    refine gw_geti (k := 2) C I gcls_6 (by decide) rfl kw_29 dX7_readUrl_61 hf (fun v2 hf => ?_)
    refine gw_aload_n hx hb dX7_readUrl_64 rfl (lv_at hl 0 rfl) ?_
    refine gw_geti (k := 3) C I gcls_6 (by decide) rfl kw_30 dX7_readUrl_65 hf (fun v3 hf => ?_)
    refine gw_aload_n hx hb dX7_readUrl_68 rfl (lv_at hl 1 rfl) ?_
    refine gw_getr (k := 4) C I gcls_5 (by decide) rfl kw_147 dX7_readUrl_69 hf (fun v4 hf => ?_)
    refine gw_callV (rest := []) C I hl.1 gcls_3 (m_X4_readHost G l x4 v1 v2 v3 v4) gl_RX7_52 gn_X4_readHost ⟨Nat.le_of_ble_eq_true rfl, Nat.le_of_ble_eq_true rfl⟩ rfl (gc4 (Nat.le_of_ble_eq_true rfl)) rfl dX7_readUrl_72 hf (fun v5 σ H locs cells slots I hf => ?_)
    refine W.eq (g2 := F0 m 75 ls [.int v5]) rfl ?_
    refine lv_istore (lv' := [(6, .int v5), (0, va_rf x0), (3, va_rf x3), (4, va_rf x4), (5, .int x5)]) hx hb dX7_readUrl_75 hl (by decide) rfl (fun ls hl => ?_)
    refine lv_iload hx hb dX7_readUrl_77 (lv_at hl 0 rfl) ?_
    refine lv_if_eq (tgt := 87) hx hb dX7_readUrl_79 (by decide) (fun hq => ?_) (fun hq => ?_)
    · have hf := gift hq hf
      refine gw_aload_n hx hb dX7_readUrl_87 rfl (lv_at hl 1 rfl) ?_
      refine gw_aload_n hx hb dX7_readUrl_88 rfl (lv_at hl 2 rfl) ?_
      refine gw_callV (rest := []) C I hl.1 gcls_6 (m_X7_readPort G l x0 x3) gl_RX7_58 gn_X7_readPort ⟨Nat.le_of_ble_eq_true rfl, Nat.le_of_ble_eq_true rfl⟩ rfl (gc4 (Nat.le_of_ble_eq_true rfl)) rfl dX7_readUrl_89 hf (fun v6 σ H locs cells slots I hf => ?_)
      refine W.eq (g2 := F0 m 92 ls [.int v6]) rfl ?_
      exact w_X7_readUrl_92 C hr  x0 x3 v6 _ _ _ _ _ _ hf I (lv_sub hl [1, 2] rfl)
    · have hf := giff hq hf
      refine lv_iload hx hb dX7_readUrl_82 (lv_at hl 0 rfl) ?_
      refine lv_goto (tgt := 92) hx hb dX7_readUrl_84 (by decide) ?_
      exact w_X7_readUrl_92 C hr  x0 x3 v5 _ _ _ _ _ _ hf I (lv_sub hl [1, 2] rfl)
set_option maxHeartbeats 4000000 in
set_option maxRecDepth 100000 in
theorem w_X7_readUrl_35 (C : gC G p s m args meth c cX7_readUrl 7 RX7) (hr : meth.sig.returnType = (some .int))  (x0 : Option Nat) (x3 : Option Nat) (x4 : Option Nat) (x5 : Int32) : gJ G p l e 9 212 mc ms s m args below meth c gri y 7 35 [(0, va_rf x0), (3, va_rf x3), (4, va_rf x4), (5, .int x5)] [] (f_X7_readUrl_35  x0 x3 x4 x5) := by
  have hx := C.1
  have hb := C.2.1
  intro σ H locs cells slots ls hf I hl
  unfold f_X7_readUrl_35 at hf
  refine lv_iload hx hb dX7_readUrl_35 (lv_at hl 3 rfl) ?_
  refine lv_iconst (v := 2) hx hb dX7_readUrl_37 kc_i_2 ?_
  refine lv_icmp_ne (tgt := 48) hx hb dX7_readUrl_38 (by decide) (fun hq => ?_) (fun hq => ?_)
  · have hf := giff hq hf
    exact w_X7_readUrl_48 C hr  x0 x3 x4 x5 _ _ _ _ _ _ hf I (lv_sub hl [0, 1, 2, 3] rfl)
  · have hf := gift hq hf
    refine gw_aload_n hx hb dX7_readUrl_41 rfl (lv_at hl 0 rfl) ?_
    refine gw_aload_n hx hb dX7_readUrl_42 rfl (lv_at hl 1 rfl) ?_
    refine gw_callV (rest := []) C I hl.1 gcls_6 (m_X7_readAuthority G l x0 x3) gl_RX7_44 gn_X7_readAuthority ⟨Nat.le_of_ble_eq_true rfl, Nat.le_of_ble_eq_true rfl⟩ rfl (gc4 (Nat.le_of_ble_eq_true rfl)) rfl dX7_readUrl_43 hf (fun v1 σ H locs cells slots I hf => ?_)
    refine W.eq (g2 := F0 m 46 ls [.int v1]) rfl ?_
    refine lv_istore (lv' := [(5, .int v1), (0, va_rf x0), (3, va_rf x3), (4, va_rf x4)]) hx hb dX7_readUrl_46 hl (by decide) (by cases x4 <;> rfl) (fun ls hl => ?_)
    exact w_X7_readUrl_48 C hr  x0 x3 x4 v1 _ _ _ _ _ _ hf I (lv_sub hl [1, 2, 3, 0] rfl)
set_option maxHeartbeats 4000000 in
set_option maxRecDepth 100000 in
theorem w_X7_readUrl_0 (C : gC G p s m args meth c cX7_readUrl 7 RX7) (hr : meth.sig.returnType = (some .int))  (a0 : Option Nat) (a1 : Option Nat) (a2 : Option Nat) (a3 : Option Nat) (a4 : Option Nat) : gJ G p l e 9 212 mc ms s m args below meth c gri y 7 0 [(0, va_rf a0), (1, va_rf a1), (2, va_rf a2), (3, va_rf a3), (4, va_rf a4)] [] (f_X7_readUrl  a0 a1 a2 a3 a4) := by
  have hx := C.1
  have hb := C.2.1
  intro σ H locs cells slots ls hf I hl
  unfold f_X7_readUrl at hf
  refine gw_aload_n hx hb dX7_readUrl_0 rfl (lv_at hl 0 rfl) ?_
  refine gw_aload_n hx hb dX7_readUrl_1 rfl (lv_at hl 1 rfl) ?_
  refine gw_callV (rest := []) C I hl.1 gcls_6 (m_X7_tidy G l a0 a1) gl_RX7_28 gn_X7_tidy ⟨Nat.le_of_ble_eq_true rfl, Nat.le_of_ble_eq_true rfl⟩ rfl (gc4 (Nat.le_of_ble_eq_true rfl)) rfl dX7_readUrl_2 hf (fun _ σ H locs cells slots I hf => ?_)
  refine W.eq (g2 := F0 m 5 ls []) rfl ?_
  refine gw_aload_n hx hb dX7_readUrl_5 rfl (lv_at hl 3 rfl) ?_
  refine gw_callV (rest := []) C I hl.1 gcls_5 (m_X6_empty G l a3) gl_RX7_32 gn_X6_empty ⟨Nat.le_of_ble_eq_true rfl, Nat.le_of_ble_eq_true rfl⟩ rfl (gc4 (Nat.le_of_ble_eq_true rfl)) rfl dX7_readUrl_6 hf (fun _ σ H locs cells slots I hf => ?_)
  refine W.eq (g2 := F0 m 9 ls []) rfl ?_
  refine gw_aload_n hx hb dX7_readUrl_9 rfl (lv_at hl 0 rfl) ?_
  refine gw_aload_n hx hb dX7_readUrl_10 rfl (lv_at hl 2 rfl) ?_
  refine gw_aload_n hx hb dX7_readUrl_11 rfl (lv_at hl 3 rfl) ?_
  refine gw_callV (rest := []) C I hl.1 gcls_6 (m_X7_readScheme G l a0 a2 a3) gl_RX7_37 gn_X7_readScheme ⟨Nat.le_of_ble_eq_true rfl, Nat.le_of_ble_eq_true rfl⟩ rfl (gc4 (Nat.le_of_ble_eq_true rfl)) rfl dX7_readUrl_12 hf (fun v1 σ H locs cells slots I hf => ?_)
  refine W.eq (g2 := F0 m 15 ls [.int v1]) rfl ?_
  refine lv_istore (lv' := [(5, .int v1), (0, va_rf a0), (1, va_rf a1), (2, va_rf a2), (3, va_rf a3), (4, va_rf a4)]) hx hb dX7_readUrl_15 hl (by decide) (by cases a4 <;> rfl) (fun ls hl => ?_)
  refine lv_iload hx hb dX7_readUrl_17 (lv_at hl 0 rfl) ?_
  refine lv_iconst (v := 1) hx hb dX7_readUrl_19 kc_i_1 ?_
  refine lv_icmp_ne (tgt := 35) hx hb dX7_readUrl_20 (by decide) (fun hq => ?_) (fun hq => ?_)
  · have hf := giff hq hf
    exact w_X7_readUrl_35 C hr  a0 a3 a4 v1 _ _ _ _ _ _ hf I (lv_sub hl [1, 4, 5, 0] rfl)
  · have hf := gift hq hf
    refine gw_aload_n hx hb dX7_readUrl_23 rfl (lv_at hl 3 rfl) ?_
    refine gw_ifnull (tgt := 35) hx hb dX7_readUrl_24 (by decide) (fun hq => ?_) (fun hq => ?_)
    · have hf := gift hq hf
      exact w_X7_readUrl_35 C hr  a0 a3 a4 v1 _ _ _ _ _ _ hf I (lv_sub hl [1, 4, 5, 0] rfl)
    · have hf := giff hq hf
      refine gw_aload_n hx hb dX7_readUrl_27 rfl (lv_at hl 1 rfl) ?_
      refine gw_aload_n hx hb dX7_readUrl_28 rfl (lv_at hl 3 rfl) ?_
      refine gw_aload_n hx hb dX7_readUrl_29 rfl (lv_at hl 4 rfl) ?_
      refine gw_callV (rest := []) C I hl.1 gcls_6 (m_X7_readRelative G l a0 a2 a3) gl_RX7_41 gn_X7_readRelative ⟨Nat.le_of_ble_eq_true rfl, Nat.le_of_ble_eq_true rfl⟩ rfl (gc4 (Nat.le_of_ble_eq_true rfl)) rfl dX7_readUrl_30 hf (fun v2 σ H locs cells slots I hf => ?_)
      refine W.eq (g2 := F0 m 33 ls [.int v2]) rfl ?_
      refine lv_istore (lv' := [(5, .int v2), (0, va_rf a0), (1, va_rf a1), (2, va_rf a2), (3, va_rf a3), (4, va_rf a4)]) hx hb dX7_readUrl_33 hl (by decide) (by cases a4 <;> rfl) (fun ls hl => ?_)
      exact w_X7_readUrl_35 C hr  a0 a3 a4 v2 _ _ _ _ _ _ hf I (lv_sub hl [1, 4, 5, 0] rfl)
end S_X7_readUrl
theorem m_X7_readUrl (G : gX) (l : Launch) (a0 : Option Nat) (a1 : Option Nat) (a2 : Option Nat) (a3 : Option Nat) (a4 : Option Nat) : gMet G l yX7_readUrl cX7_readUrl 7 (some .int) 9 212 [va_rf a0, va_rf a1, va_rf a2, va_rf a3, va_rf a4] gri (f_X7_readUrl a0 a1 a2 a3 a4) := by
  refine gMet_of (by decide) ?_
  intro σ y p e s m below meth c mc ms hf C hr hnm I
  obtain ⟨ls, e1, hl⟩ := gentry m [va_rf a0, va_rf a1, va_rf a2, va_rf a3, va_rf a4] 7 [(0, va_rf a0), (1, va_rf a1), (2, va_rf a2), (3, va_rf a3), (4, va_rf a4)] (by simp [lg_sl, grc, gcat_i, gcat_l]) (by simp [lv_args, grc, gcat_i, gcat_l])
  rw [e1]
  exact w_X7_readUrl_0 C hr a0 a1 a2 a3 a4 _ _ _ _ _ _ hf I hl
def f_X6_hasUser  (a0 : Option Nat) : gM Int32 := gb (rR 5 2 a0) fun v1 => gb (rI 4 1 v1) fun v2 => if 0 < v2 then (gz 1) else (gb (rR 5 3 a0) fun v3 => gb (rI 4 1 v3) fun v4 => if v4 ≤ 0 then (gz 0) else (gz 1))
section S_X6_hasUser
variable {G : gX} {p : Program} {l : Launch} {e : Env} {s : State} {m : MethodId} {args : Array Value} {below : List Frame} {meth : Method} {c : Code} {mc ms : Nat} {y : Int32 × gS}
set_option maxHeartbeats 4000000 in
set_option maxRecDepth 100000 in
theorem w_X6_hasUser_0 (C : gC G p s m args meth c cX6_hasUser 1 RX6) (hr : meth.sig.returnType = (some .boolean))  (a0 : Option Nat) : gJ G p l e 0 0 mc ms s m args below meth c gri y 1 0 [(0, va_rf a0)] [] (f_X6_hasUser  a0) := by
  have hx := C.1
  have hb := C.2.1
  intro σ H locs cells slots ls hf I hl
  unfold f_X6_hasUser at hf
  refine gw_aload_n hx hb dX6_hasUser_0 rfl (lv_at hl 0 rfl) ?_
  refine gw_getr (k := 2) C I gcls_5 (by decide) rfl kw_49 dX6_hasUser_1 hf (fun v1 hf => ?_)
  refine gw_geti (k := 1) C I gcls_4 (by decide) rfl kw_114 dX6_hasUser_4 hf (fun v2 hf => ?_)
  refine lv_if_gt (tgt := 20) hx hb dX6_hasUser_7 (by decide) (fun hq => ?_) (fun hq => ?_)
  · have hf := gift hq hf
    refine lv_iconst (v := 1) hx hb dX6_hasUser_20 kc_i_1 ?_
    refine lv_goto (tgt := 25) hx hb dX6_hasUser_21 (by decide) ?_
    exact gw_zret C I hr dX6_hasUser_25 hf
  · have hf := giff hq hf
    refine gw_aload_n hx hb dX6_hasUser_10 rfl (lv_at hl 0 rfl) ?_
    refine gw_getr (k := 3) C I gcls_5 (by decide) rfl kw_50 dX6_hasUser_11 hf (fun v3 hf => ?_)
    refine gw_geti (k := 1) C I gcls_4 (by decide) rfl kw_114 dX6_hasUser_14 hf (fun v4 hf => ?_)
    refine lv_if_le (tgt := 24) hx hb dX6_hasUser_17 (by decide) (fun hq => ?_) (fun hq => ?_)
    · have hf := gift hq hf
      refine lv_iconst (v := 0) hx hb dX6_hasUser_24 kc_i_0 ?_
      exact gw_zret C I hr dX6_hasUser_25 hf
    · have hf := giff hq hf
      refine lv_iconst (v := 1) hx hb dX6_hasUser_20 kc_i_1 ?_
      refine lv_goto (tgt := 25) hx hb dX6_hasUser_21 (by decide) ?_
      exact gw_zret C I hr dX6_hasUser_25 hf
end S_X6_hasUser
theorem m_X6_hasUser (G : gX) (l : Launch) (a0 : Option Nat) : gMet G l yX6_hasUser cX6_hasUser 1 (some .boolean) 0 0 [va_rf a0] gri (f_X6_hasUser a0) := by
  refine gMet_of (by decide) ?_
  intro σ y p e s m below meth c mc ms hf C hr hnm I
  obtain ⟨ls, e1, hl⟩ := gentry m [va_rf a0] 1 [(0, va_rf a0)] (by simp [lg_sl, grc, gcat_i, gcat_l]) (by simp [lv_args, grc, gcat_i, gcat_l])
  rw [e1]
  exact w_X6_hasUser_0 C hr a0 _ _ _ _ _ _ hf I hl
def f_X5_addRow_7 (rec7 : Option Nat → Option Nat → Int32 → Int32 → gM Unit) (x0 : Option Nat) (x1 : Option Nat) (x2 : Int32) (x3 : Int32) : gM Unit := if x2 ≤ x3 then (gp ()) else (gb (nn 4 x1) fun _ => gb (f_X5_byteAt x1 x3) fun v1 => gb (nn 4 x0) fun _ => gb (f_X5_add x0 v1) fun _ => rec7 x0 x1 x2 (x3 + 1))
def f_X5_addRow_L7  : Nat → Option Nat → Option Nat → Int32 → Int32 → gM Unit
  | 0, _, _, _, _ => gno
  | n + 1, x0, x1, x2, x3 => f_X5_addRow_7  (f_X5_addRow_L7  n) x0 x1 x2 x3
def f_X5_addRow  (a0 : Option Nat) (a1 : Option Nat) : gM Unit := gb (rI 4 1 a1) fun v1 => f_X5_addRow_L7  gF a0 a1 v1 0
section S_X5_addRow
variable {G : gX} {p : Program} {l : Launch} {e : Env} {s : State} {m : MethodId} {args : Array Value} {below : List Frame} {meth : Method} {c : Code} {mc ms : Nat} {y : Unit × gS}
set_option maxHeartbeats 4000000 in
set_option maxRecDepth 100000 in
theorem w_X5_addRow_7 (C : gC G p s m args meth c cX5_addRow 4 RX5) (hr : meth.sig.returnType = none) {rec7 : Option Nat → Option Nat → Int32 → Int32 → gM Unit} (hrec7 : ∀ (x0 : Option Nat) (x1 : Option Nat) (x2 : Int32) (x3 : Int32), gJ G p l e 3 83 mc ms s m args below meth c grv y 4 7 [(0, va_rf x0), (1, va_rf x1), (2, .int x2), (3, .int x3)] [] (rec7 x0 x1 x2 x3)) (x0 : Option Nat) (x1 : Option Nat) (x2 : Int32) (x3 : Int32) : gJ G p l e 3 83 mc ms s m args below meth c grv y 4 7 [(0, va_rf x0), (1, va_rf x1), (2, .int x2), (3, .int x3)] [] (f_X5_addRow_7 rec7 x0 x1 x2 x3) := by
  have hx := C.1
  have hb := C.2.1
  intro σ H locs cells slots ls hf I hl
  unfold f_X5_addRow_7 at hf
  refine lv_iload_n hx hb dX5_addRow_7 rfl (lv_at hl 3 rfl) ?_
  refine lv_iload_n hx hb dX5_addRow_8 rfl (lv_at hl 2 rfl) ?_
  refine lv_icmp_ge (tgt := 27) hx hb dX5_addRow_9 (by decide) (fun hq => ?_) (fun hq => ?_)
  · have hf := gift hq hf
    exact gw_vret C I hr dX5_addRow_27 hf
  · have hf := giff hq hf
    refine gw_aload_n hx hb dX5_addRow_12 rfl (lv_at hl 0 rfl) ?_
    refine gw_aload_n hx hb dX5_addRow_13 rfl (lv_at hl 1 rfl) ?_
    refine lv_iload_n hx hb dX5_addRow_14 rfl (lv_at hl 3 rfl) ?_
    refine gw_callV (rest := [va_rf x0]) C I hl.1 gcls_4 (m_X5_byteAt G l x1 x3) gl_RX5_25 gn_X5_byteAt ⟨Nat.le_of_ble_eq_true rfl, Nat.le_of_ble_eq_true rfl⟩ rfl (gc4 (Nat.le_of_ble_eq_true rfl)) rfl dX5_addRow_15 hf (fun v1 σ H locs cells slots I hf => ?_)
    refine W.eq (g2 := F0 m 18 ls [.int v1, va_rf x0]) rfl ?_
    refine gw_callV (rest := []) C I hl.1 gcls_4 (m_X5_add G l x0 v1) gl_RX5_29 gn_X5_add ⟨Nat.le_of_ble_eq_true rfl, Nat.le_of_ble_eq_true rfl⟩ rfl (gc4 (Nat.le_of_ble_eq_true rfl)) rfl dX5_addRow_18 hf (fun _ σ H locs cells slots I hf => ?_)
    refine W.eq (g2 := F0 m 21 ls []) rfl ?_
    refine lv_iinc (v := x3 + 1) (lv' := [(3, .int (x3 + 1)), (0, va_rf x0), (1, va_rf x1), (2, .int x2)]) hx hb dX5_addRow_21 hl (k := 3) rfl rfl (by decide) rfl (fun ls hl => ?_)
    refine lv_goto (tgt := 7) hx hb dX5_addRow_24 (by decide) ?_
    exact hrec7 x0 x1 x2 (x3 + 1) _ _ _ _ _ _ hf I (lv_sub hl [1, 2, 3, 0] rfl)
theorem w_X5_addRow_L7 (C : gC G p s m args meth c cX5_addRow 4 RX5) (hr : meth.sig.returnType = none)  : ∀ (n : Nat) (x0 : Option Nat) (x1 : Option Nat) (x2 : Int32) (x3 : Int32), gJ G p l e 3 83 mc ms s m args below meth c grv y 4 7 [(0, va_rf x0), (1, va_rf x1), (2, .int x2), (3, .int x3)] [] (f_X5_addRow_L7  n x0 x1 x2 x3) := by
  intro n
  induction n with
  | zero => intro x0 x1 x2 x3 σ H locs cells slots ls hf; exact (gno_some hf).elim
  | succ n ih => intro x0 x1 x2 x3; exact w_X5_addRow_7 C hr  ih x0 x1 x2 x3
set_option maxHeartbeats 4000000 in
set_option maxRecDepth 100000 in
theorem w_X5_addRow_0 (C : gC G p s m args meth c cX5_addRow 4 RX5) (hr : meth.sig.returnType = none)  (a0 : Option Nat) (a1 : Option Nat) : gJ G p l e 3 83 mc ms s m args below meth c grv y 4 0 [(0, va_rf a0), (1, va_rf a1)] [] (f_X5_addRow  a0 a1) := by
  have hx := C.1
  have hb := C.2.1
  intro σ H locs cells slots ls hf I hl
  unfold f_X5_addRow at hf
  refine gw_aload_n hx hb dX5_addRow_0 rfl (lv_at hl 1 rfl) ?_
  refine gw_geti (k := 1) C I gcls_4 (by decide) rfl kw_5 dX5_addRow_1 hf (fun v1 hf => ?_)
  refine lv_istore_n (lv' := [(2, .int v1), (0, va_rf a0), (1, va_rf a1)]) hx hb dX5_addRow_4 rfl hl (by decide) (by cases a1 <;> rfl) (fun ls hl => ?_)
  refine lv_iconst (v := 0) hx hb dX5_addRow_5 kc_i_0 ?_
  refine lv_istore_n (lv' := [(3, .int 0), (2, .int v1), (0, va_rf a0), (1, va_rf a1)]) hx hb dX5_addRow_6 rfl hl (by decide) rfl (fun ls hl => ?_)
  exact w_X5_addRow_L7 C hr  _ a0 a1 v1 0 _ _ _ _ _ _ hf I (lv_sub hl [2, 3, 1, 0] rfl)
end S_X5_addRow
theorem m_X5_addRow (G : gX) (l : Launch) (a0 : Option Nat) (a1 : Option Nat) : gMet G l yX5_addRow cX5_addRow 4 none 3 83 [va_rf a0, va_rf a1] grv (f_X5_addRow a0 a1) := by
  refine gMet_of (by decide) ?_
  intro σ y p e s m below meth c mc ms hf C hr hnm I
  obtain ⟨ls, e1, hl⟩ := gentry m [va_rf a0, va_rf a1] 4 [(0, va_rf a0), (1, va_rf a1)] (by simp [lg_sl, grc, gcat_i, gcat_l]) (by simp [lv_args, grc, gcat_i, gcat_l])
  rw [e1]
  exact w_X5_addRow_0 C hr a0 a1 _ _ _ _ _ _ hf I hl
def f_X6_writeTo_121  (x0 : Option Nat) (x1 : Option Nat) : gM Unit := gb (rI 5 11 x0) fun v1 => if v1 = 0 then (gp ()) else (gb (nn 4 x1) fun _ => gb (f_X5_add x1 35) fun _ => gb (rR 5 10 x0) fun v2 => gb (nn 4 x1) fun _ => gb (f_X5_addRow x1 v2) fun _ => gp ())
def f_X6_writeTo_92  (x0 : Option Nat) (x1 : Option Nat) : gM Unit := gb (rR 5 6 x0) fun v1 => gb (nn 4 x1) fun _ => gb (f_X5_addRow x1 v1) fun _ => gb (rI 5 9 x0) fun v2 => if v2 = 0 then (f_X6_writeTo_121  x0 x1) else (gb (nn 4 x1) fun _ => gb (f_X5_add x1 63) fun _ => gb (rR 5 8 x0) fun v3 => gb (nn 4 x1) fun _ => gb (f_X5_addRow x1 v3) fun _ => f_X6_writeTo_121  x0 x1)
def f_X6_writeTo_59  (x0 : Option Nat) (x1 : Option Nat) : gM Unit := gb (rR 5 4 x0) fun v1 => gb (rR 2 1 v1) fun v2 => gb (nn 4 x1) fun _ => gb (f_X5_addRow x1 v2) fun _ => gb (rI 5 5 x0) fun v3 => if v3 = (-1) then (f_X6_writeTo_92  x0 x1) else (gb (nn 4 x1) fun _ => gb (f_X5_add x1 58) fun _ => gb (rI 5 5 x0) fun v4 => gb (nn 4 x1) fun _ => gb (f_X5_addDecimal x1 v4) fun _ => f_X6_writeTo_92  x0 x1)
def f_X6_writeTo_53  (x0 : Option Nat) (x1 : Option Nat) : gM Unit := gb (nn 4 x1) fun _ => gb (f_X5_add x1 64) fun _ => f_X6_writeTo_59  x0 x1
def f_X6_writeTo  (a0 : Option Nat) (a1 : Option Nat) : gM Unit := gb (rR 5 1 a0) fun v1 => gb (nn 4 a1) fun _ => gb (f_X5_take a1 v1) fun _ => gb (nn 4 a1) fun _ => gb (f_X5_addText a1 18) fun _ => gb (nn 5 a0) fun _ => gb (f_X6_hasUser a0) fun v2 => if v2 = 0 then (f_X6_writeTo_59  a0 a1) else (gb (rR 5 2 a0) fun v3 => gb (nn 4 a1) fun _ => gb (f_X5_addRow a1 v3) fun _ => gb (rR 5 3 a0) fun v4 => gb (rI 4 1 v4) fun v5 => if v5 ≤ 0 then (f_X6_writeTo_53  a0 a1) else (gb (nn 4 a1) fun _ => gb (f_X5_add a1 58) fun _ => gb (rR 5 3 a0) fun v6 => gb (nn 4 a1) fun _ => gb (f_X5_addRow a1 v6) fun _ => f_X6_writeTo_53  a0 a1))
section S_X6_writeTo
variable {G : gX} {p : Program} {l : Launch} {e : Env} {s : State} {m : MethodId} {args : Array Value} {below : List Frame} {meth : Method} {c : Code} {mc ms : Nat} {y : Unit × gS}
set_option maxHeartbeats 4000000 in
set_option maxRecDepth 100000 in
theorem w_X6_writeTo_121 (C : gC G p s m args meth c cX6_writeTo 2 RX6) (hr : meth.sig.returnType = none)  (x0 : Option Nat) (x1 : Option Nat) : gJ G p l e 5 107 mc ms s m args below meth c grv y 2 121 [(0, va_rf x0), (1, va_rf x1)] [] (f_X6_writeTo_121  x0 x1) := by
  have hx := C.1
  have hb := C.2.1
  intro σ H locs cells slots ls hf I hl
  unfold f_X6_writeTo_121 at hf
  refine gw_aload_n hx hb dX6_writeTo_121 rfl (lv_at hl 0 rfl) ?_
  refine gw_geti (k := 11) C I gcls_5 (by decide) rfl kw_62 dX6_writeTo_122 hf (fun v1 hf => ?_)
  refine lv_if_eq (tgt := 142) hx hb dX6_writeTo_125 (by decide) (fun hq => ?_) (fun hq => ?_)
  · have hf := gift hq hf
    exact gw_vret C I hr dX6_writeTo_142 hf
  · have hf := giff hq hf
    refine gw_aload_n hx hb dX6_writeTo_128 rfl (lv_at hl 1 rfl) ?_
    refine lv_bipush (v := 35) hx hb dX6_writeTo_129 kc_b_35 ?_
    refine gw_callV (rest := []) C I hl.1 gcls_4 (m_X5_add G l x1 35) gl_RX6_86 gn_X5_add ⟨Nat.le_of_ble_eq_true rfl, Nat.le_of_ble_eq_true rfl⟩ rfl (gc4 (Nat.le_of_ble_eq_true rfl)) rfl dX6_writeTo_131 hf (fun _ σ H locs cells slots I hf => ?_)
    refine W.eq (g2 := F0 m 134 ls []) rfl ?_
    refine gw_aload_n hx hb dX6_writeTo_134 rfl (lv_at hl 1 rfl) ?_
    refine gw_aload_n hx hb dX6_writeTo_135 rfl (lv_at hl 0 rfl) ?_
    refine gw_getr (k := 10) C I gcls_5 (by decide) rfl kw_61 dX6_writeTo_136 hf (fun v2 hf => ?_)
    refine gw_callV (rest := []) C I hl.1 gcls_4 (m_X5_addRow G l x1 v2) gl_RX6_116 gn_X5_addRow ⟨Nat.le_of_ble_eq_true rfl, Nat.le_of_ble_eq_true rfl⟩ rfl (gc4 (Nat.le_of_ble_eq_true rfl)) rfl dX6_writeTo_139 hf (fun _ σ H locs cells slots I hf => ?_)
    refine W.eq (g2 := F0 m 142 ls []) rfl ?_
    exact gw_vret C I hr dX6_writeTo_142 hf
set_option maxHeartbeats 4000000 in
set_option maxRecDepth 100000 in
theorem w_X6_writeTo_92 (C : gC G p s m args meth c cX6_writeTo 2 RX6) (hr : meth.sig.returnType = none)  (x0 : Option Nat) (x1 : Option Nat) : gJ G p l e 5 107 mc ms s m args below meth c grv y 2 92 [(0, va_rf x0), (1, va_rf x1)] [] (f_X6_writeTo_92  x0 x1) := by
  have hx := C.1
  have hb := C.2.1
  intro σ H locs cells slots ls hf I hl
  unfold f_X6_writeTo_92 at hf
  refine gw_aload_n hx hb dX6_writeTo_92 rfl (lv_at hl 1 rfl) ?_
  refine gw_aload_n hx hb dX6_writeTo_93 rfl (lv_at hl 0 rfl) ?_
  refine gw_getr (k := 6) C I gcls_5 (by decide) rfl kw_57 dX6_writeTo_94 hf (fun v1 hf => ?_)
  refine gw_callV (rest := []) C I hl.1 gcls_4 (m_X5_addRow G l x1 v1) gl_RX6_116 gn_X5_addRow ⟨Nat.le_of_ble_eq_true rfl, Nat.le_of_ble_eq_true rfl⟩ rfl (gc4 (Nat.le_of_ble_eq_true rfl)) rfl dX6_writeTo_97 hf (fun _ σ H locs cells slots I hf => ?_)
  refine W.eq (g2 := F0 m 100 ls []) rfl ?_
  refine gw_aload_n hx hb dX6_writeTo_100 rfl (lv_at hl 0 rfl) ?_
  refine gw_geti (k := 9) C I gcls_5 (by decide) rfl kw_60 dX6_writeTo_101 hf (fun v2 hf => ?_)
  refine lv_if_eq (tgt := 121) hx hb dX6_writeTo_104 (by decide) (fun hq => ?_) (fun hq => ?_)
  · have hf := gift hq hf
    exact w_X6_writeTo_121 C hr  x0 x1 _ _ _ _ _ _ hf I (lv_sub hl [0, 1] rfl)
  · have hf := giff hq hf
    refine gw_aload_n hx hb dX6_writeTo_107 rfl (lv_at hl 1 rfl) ?_
    refine lv_bipush (v := 63) hx hb dX6_writeTo_108 kc_b_63 ?_
    refine gw_callV (rest := []) C I hl.1 gcls_4 (m_X5_add G l x1 63) gl_RX6_86 gn_X5_add ⟨Nat.le_of_ble_eq_true rfl, Nat.le_of_ble_eq_true rfl⟩ rfl (gc4 (Nat.le_of_ble_eq_true rfl)) rfl dX6_writeTo_110 hf (fun _ σ H locs cells slots I hf => ?_)
    refine W.eq (g2 := F0 m 113 ls []) rfl ?_
    refine gw_aload_n hx hb dX6_writeTo_113 rfl (lv_at hl 1 rfl) ?_
    refine gw_aload_n hx hb dX6_writeTo_114 rfl (lv_at hl 0 rfl) ?_
    refine gw_getr (k := 8) C I gcls_5 (by decide) rfl kw_59 dX6_writeTo_115 hf (fun v3 hf => ?_)
    refine gw_callV (rest := []) C I hl.1 gcls_4 (m_X5_addRow G l x1 v3) gl_RX6_116 gn_X5_addRow ⟨Nat.le_of_ble_eq_true rfl, Nat.le_of_ble_eq_true rfl⟩ rfl (gc4 (Nat.le_of_ble_eq_true rfl)) rfl dX6_writeTo_118 hf (fun _ σ H locs cells slots I hf => ?_)
    refine W.eq (g2 := F0 m 121 ls []) rfl ?_
    exact w_X6_writeTo_121 C hr  x0 x1 _ _ _ _ _ _ hf I (lv_sub hl [0, 1] rfl)
set_option maxHeartbeats 4000000 in
set_option maxRecDepth 100000 in
theorem w_X6_writeTo_59 (C : gC G p s m args meth c cX6_writeTo 2 RX6) (hr : meth.sig.returnType = none)  (x0 : Option Nat) (x1 : Option Nat) : gJ G p l e 5 107 mc ms s m args below meth c grv y 2 59 [(0, va_rf x0), (1, va_rf x1)] [] (f_X6_writeTo_59  x0 x1) := by
  have hx := C.1
  have hb := C.2.1
  intro σ H locs cells slots ls hf I hl
  unfold f_X6_writeTo_59 at hf
  refine gw_aload_n hx hb dX6_writeTo_59 rfl (lv_at hl 1 rfl) ?_
  refine gw_aload_n hx hb dX6_writeTo_60 rfl (lv_at hl 0 rfl) ?_
  refine gw_getr (k := 4) C I gcls_5 (by decide) rfl kw_55 dX6_writeTo_61 hf (fun v1 hf => ?_)
  refine gw_getr (k := 1) C I gcls_2 (by decide) rfl kw_148 dX6_writeTo_64 hf (fun v2 hf => ?_)
  refine gw_callV (rest := []) C I hl.1 gcls_4 (m_X5_addRow G l x1 v2) gl_RX6_116 gn_X5_addRow ⟨Nat.le_of_ble_eq_true rfl, Nat.le_of_ble_eq_true rfl⟩ rfl (gc4 (Nat.le_of_ble_eq_true rfl)) rfl dX6_writeTo_67 hf (fun _ σ H locs cells slots I hf => ?_)
  refine W.eq (g2 := F0 m 70 ls []) rfl ?_
  refine gw_aload_n hx hb dX6_writeTo_70 rfl (lv_at hl 0 rfl) ?_
  refine gw_geti (k := 5) C I gcls_5 (by decide) rfl kw_56 dX6_writeTo_71 hf (fun v3 hf => ?_)
  refine lv_iconst (v := (-1)) hx hb dX6_writeTo_74 kc_i_m1 ?_
  refine lv_icmp_eq (tgt := 92) hx hb dX6_writeTo_75 (by decide) (fun hq => ?_) (fun hq => ?_)
  · have hf := gift hq hf
    exact w_X6_writeTo_92 C hr  x0 x1 _ _ _ _ _ _ hf I (lv_sub hl [0, 1] rfl)
  · have hf := giff hq hf
    refine gw_aload_n hx hb dX6_writeTo_78 rfl (lv_at hl 1 rfl) ?_
    refine lv_bipush (v := 58) hx hb dX6_writeTo_79 kc_b_58 ?_
    refine gw_callV (rest := []) C I hl.1 gcls_4 (m_X5_add G l x1 58) gl_RX6_86 gn_X5_add ⟨Nat.le_of_ble_eq_true rfl, Nat.le_of_ble_eq_true rfl⟩ rfl (gc4 (Nat.le_of_ble_eq_true rfl)) rfl dX6_writeTo_81 hf (fun _ σ H locs cells slots I hf => ?_)
    refine W.eq (g2 := F0 m 84 ls []) rfl ?_
    refine gw_aload_n hx hb dX6_writeTo_84 rfl (lv_at hl 1 rfl) ?_
    refine gw_aload_n hx hb dX6_writeTo_85 rfl (lv_at hl 0 rfl) ?_
    refine gw_geti (k := 5) C I gcls_5 (by decide) rfl kw_56 dX6_writeTo_86 hf (fun v4 hf => ?_)
    refine gw_callV (rest := []) C I hl.1 gcls_4 (m_X5_addDecimal G l x1 v4) gl_RX6_119 gn_X5_addDecimal ⟨Nat.le_of_ble_eq_true rfl, Nat.le_of_ble_eq_true rfl⟩ rfl (gc4 (Nat.le_of_ble_eq_true rfl)) rfl dX6_writeTo_89 hf (fun _ σ H locs cells slots I hf => ?_)
    refine W.eq (g2 := F0 m 92 ls []) rfl ?_
    exact w_X6_writeTo_92 C hr  x0 x1 _ _ _ _ _ _ hf I (lv_sub hl [0, 1] rfl)
set_option maxHeartbeats 4000000 in
set_option maxRecDepth 100000 in
theorem w_X6_writeTo_53 (C : gC G p s m args meth c cX6_writeTo 2 RX6) (hr : meth.sig.returnType = none)  (x0 : Option Nat) (x1 : Option Nat) : gJ G p l e 5 107 mc ms s m args below meth c grv y 2 53 [(0, va_rf x0), (1, va_rf x1)] [] (f_X6_writeTo_53  x0 x1) := by
  have hx := C.1
  have hb := C.2.1
  intro σ H locs cells slots ls hf I hl
  unfold f_X6_writeTo_53 at hf
  refine gw_aload_n hx hb dX6_writeTo_53 rfl (lv_at hl 1 rfl) ?_
  refine lv_bipush (v := 64) hx hb dX6_writeTo_54 kc_b_64 ?_
  refine gw_callV (rest := []) C I hl.1 gcls_4 (m_X5_add G l x1 64) gl_RX6_86 gn_X5_add ⟨Nat.le_of_ble_eq_true rfl, Nat.le_of_ble_eq_true rfl⟩ rfl (gc4 (Nat.le_of_ble_eq_true rfl)) rfl dX6_writeTo_56 hf (fun _ σ H locs cells slots I hf => ?_)
  refine W.eq (g2 := F0 m 59 ls []) rfl ?_
  exact w_X6_writeTo_59 C hr  x0 x1 _ _ _ _ _ _ hf I (lv_sub hl [0, 1] rfl)
set_option maxHeartbeats 4000000 in
set_option maxRecDepth 100000 in
theorem w_X6_writeTo_0 (C : gC G p s m args meth c cX6_writeTo 2 RX6) (hr : meth.sig.returnType = none)  (a0 : Option Nat) (a1 : Option Nat) : gJ G p l e 5 107 mc ms s m args below meth c grv y 2 0 [(0, va_rf a0), (1, va_rf a1)] [] (f_X6_writeTo  a0 a1) := by
  have hx := C.1
  have hb := C.2.1
  intro σ H locs cells slots ls hf I hl
  unfold f_X6_writeTo at hf
  refine gw_aload_n hx hb dX6_writeTo_0 rfl (lv_at hl 1 rfl) ?_
  refine gw_aload_n hx hb dX6_writeTo_1 rfl (lv_at hl 0 rfl) ?_
  refine gw_getr (k := 1) C I gcls_5 (by decide) rfl kw_48 dX6_writeTo_2 hf (fun v1 hf => ?_)
  refine gw_callV (rest := []) C I hl.1 gcls_4 (m_X5_take G l a1 v1) gl_RX6_79 gn_X5_take ⟨Nat.le_of_ble_eq_true rfl, Nat.le_of_ble_eq_true rfl⟩ rfl (gc4 (Nat.le_of_ble_eq_true rfl)) rfl dX6_writeTo_5 hf (fun _ σ H locs cells slots I hf => ?_)
  refine W.eq (g2 := F0 m 8 ls []) rfl ?_
  refine gw_aload_n hx hb dX6_writeTo_8 rfl (lv_at hl 1 rfl) ?_
  refine gw_ldcs C 18 (tx := "://") rfl dX6_writeTo_9 ?_
  refine gw_callV (rest := []) C I hl.1 gcls_4 (m_X5_addText G l a1 18) gl_RX6_75 gn_X5_addText ⟨Nat.le_of_ble_eq_true rfl, Nat.le_of_ble_eq_true rfl⟩ rfl (gc4 (Nat.le_of_ble_eq_true rfl)) rfl dX6_writeTo_11 hf (fun _ σ H locs cells slots I hf => ?_)
  refine W.eq (g2 := F0 m 14 ls []) rfl ?_
  refine gw_aload_n hx hb dX6_writeTo_14 rfl (lv_at hl 0 rfl) ?_
  refine gw_callV (rest := []) C I hl.1 gcls_5 (m_X6_hasUser G l a0) gl_RX6_112 gn_X6_hasUser ⟨Nat.le_of_ble_eq_true rfl, Nat.le_of_ble_eq_true rfl⟩ rfl (gc4 (Nat.le_of_ble_eq_true rfl)) rfl dX6_writeTo_15 hf (fun v2 σ H locs cells slots I hf => ?_)
  refine W.eq (g2 := F0 m 18 ls [.int v2]) rfl ?_
  refine lv_if_eq (tgt := 59) hx hb dX6_writeTo_18 (by decide) (fun hq => ?_) (fun hq => ?_)
  · have hf := gift hq hf
    exact w_X6_writeTo_59 C hr  a0 a1 _ _ _ _ _ _ hf I (lv_sub hl [0, 1] rfl)
  · have hf := giff hq hf
    refine gw_aload_n hx hb dX6_writeTo_21 rfl (lv_at hl 1 rfl) ?_
    refine gw_aload_n hx hb dX6_writeTo_22 rfl (lv_at hl 0 rfl) ?_
    refine gw_getr (k := 2) C I gcls_5 (by decide) rfl kw_49 dX6_writeTo_23 hf (fun v3 hf => ?_)
    refine gw_callV (rest := []) C I hl.1 gcls_4 (m_X5_addRow G l a1 v3) gl_RX6_116 gn_X5_addRow ⟨Nat.le_of_ble_eq_true rfl, Nat.le_of_ble_eq_true rfl⟩ rfl (gc4 (Nat.le_of_ble_eq_true rfl)) rfl dX6_writeTo_26 hf (fun _ σ H locs cells slots I hf => ?_)
    refine W.eq (g2 := F0 m 29 ls []) rfl ?_
    refine gw_aload_n hx hb dX6_writeTo_29 rfl (lv_at hl 0 rfl) ?_
    refine gw_getr (k := 3) C I gcls_5 (by decide) rfl kw_50 dX6_writeTo_30 hf (fun v4 hf => ?_)
    refine gw_geti (k := 1) C I gcls_4 (by decide) rfl kw_114 dX6_writeTo_33 hf (fun v5 hf => ?_)
    refine lv_if_le (tgt := 53) hx hb dX6_writeTo_36 (by decide) (fun hq => ?_) (fun hq => ?_)
    · have hf := gift hq hf
      exact w_X6_writeTo_53 C hr  a0 a1 _ _ _ _ _ _ hf I (lv_sub hl [0, 1] rfl)
    · have hf := giff hq hf
      refine gw_aload_n hx hb dX6_writeTo_39 rfl (lv_at hl 1 rfl) ?_
      refine lv_bipush (v := 58) hx hb dX6_writeTo_40 kc_b_58 ?_
      refine gw_callV (rest := []) C I hl.1 gcls_4 (m_X5_add G l a1 58) gl_RX6_86 gn_X5_add ⟨Nat.le_of_ble_eq_true rfl, Nat.le_of_ble_eq_true rfl⟩ rfl (gc4 (Nat.le_of_ble_eq_true rfl)) rfl dX6_writeTo_42 hf (fun _ σ H locs cells slots I hf => ?_)
      refine W.eq (g2 := F0 m 45 ls []) rfl ?_
      refine gw_aload_n hx hb dX6_writeTo_45 rfl (lv_at hl 1 rfl) ?_
      refine gw_aload_n hx hb dX6_writeTo_46 rfl (lv_at hl 0 rfl) ?_
      refine gw_getr (k := 3) C I gcls_5 (by decide) rfl kw_50 dX6_writeTo_47 hf (fun v6 hf => ?_)
      refine gw_callV (rest := []) C I hl.1 gcls_4 (m_X5_addRow G l a1 v6) gl_RX6_116 gn_X5_addRow ⟨Nat.le_of_ble_eq_true rfl, Nat.le_of_ble_eq_true rfl⟩ rfl (gc4 (Nat.le_of_ble_eq_true rfl)) rfl dX6_writeTo_50 hf (fun _ σ H locs cells slots I hf => ?_)
      refine W.eq (g2 := F0 m 53 ls []) rfl ?_
      exact w_X6_writeTo_53 C hr  a0 a1 _ _ _ _ _ _ hf I (lv_sub hl [0, 1] rfl)
end S_X6_writeTo
theorem m_X6_writeTo (G : gX) (l : Launch) (a0 : Option Nat) (a1 : Option Nat) : gMet G l yX6_writeTo cX6_writeTo 2 none 5 107 [va_rf a0, va_rf a1] grv (f_X6_writeTo a0 a1) := by
  refine gMet_of (by decide) ?_
  intro σ y p e s m below meth c mc ms hf C hr hnm I
  obtain ⟨ls, e1, hl⟩ := gentry m [va_rf a0, va_rf a1] 2 [(0, va_rf a0), (1, va_rf a1)] (by simp [lg_sl, grc, gcat_i, gcat_l]) (by simp [lv_args, grc, gcat_i, gcat_l])
  rw [e1]
  exact w_X6_writeTo_0 C hr a0 a1 _ _ _ _ _ _ hf I hl
