theorem dX8_read_0 : decode cX8_read 0 = .ok (.aload_n 0, 1) := by decide +kernel
theorem dX8_read_1 : decode cX8_read 1 = .ok (.iload_n 2, 1) := by decide +kernel
theorem dX8_read_2 : decode cX8_read 2 = .ok (.invokevirtual 69, 3) := by decide +kernel
theorem dX8_read_5 : decode cX8_read 5 = .ok (.astore_n 3, 1) := by decide +kernel
theorem dX8_read_6 : decode cX8_read 6 = .ok (.iload_n 1, 1) := by decide +kernel
theorem dX8_read_7 : decode cX8_read 7 = .ok (.ifCond .lt 17, 3) := by decide +kernel
theorem dX8_read_10 : decode cX8_read 10 = .ok (.iload_n 1, 1) := by decide +kernel
theorem dX8_read_11 : decode cX8_read 11 = .ok (.iconst 4, 1) := by decide +kernel
theorem dX8_read_12 : decode cX8_read 12 = .ok (.if_icmp .ge 12, 3) := by decide +kernel
theorem dX8_read_15 : decode cX8_read 15 = .ok (.iload_n 2, 1) := by decide +kernel
theorem dX8_read_16 : decode cX8_read 16 = .ok (.iconst (-1), 1) := by decide +kernel
theorem dX8_read_17 : decode cX8_read 17 = .ok (.if_icmp .eq 10, 3) := by decide +kernel
theorem dX8_read_20 : decode cX8_read 20 = .ok (.aload_n 3, 1) := by decide +kernel
theorem dX8_read_21 : decode cX8_read 21 = .ok (.ifnonnull 6, 3) := by decide +kernel
theorem dX8_read_24 : decode cX8_read 24 = .ok (.bipush (-2), 2) := by decide +kernel
theorem dX8_read_26 : decode cX8_read 26 = .ok (.ireturn, 1) := by decide +kernel
theorem dX8_read_27 : decode cX8_read 27 = .ok (.aload_n 0, 1) := by decide +kernel
theorem dX8_read_28 : decode cX8_read 28 = .ok (.getfield 42, 3) := by decide +kernel
theorem dX8_read_31 : decode cX8_read 31 = .ok (.aload_n 0, 1) := by decide +kernel
theorem dX8_read_32 : decode cX8_read 32 = .ok (.getfield 10, 3) := by decide +kernel
theorem dX8_read_35 : decode cX8_read 35 = .ok (.aload_n 3, 1) := by decide +kernel
theorem dX8_read_36 : decode cX8_read 36 = .ok (.aload_n 0, 1) := by decide +kernel
theorem dX8_read_37 : decode cX8_read 37 = .ok (.getfield 54, 3) := by decide +kernel
theorem dX8_read_40 : decode cX8_read 40 = .ok (.aload_n 0, 1) := by decide +kernel
theorem dX8_read_41 : decode cX8_read 41 = .ok (.getfield 35, 3) := by decide +kernel
theorem dX8_read_44 : decode cX8_read 44 = .ok (.invokevirtual 73, 3) := by decide +kernel
theorem dX8_read_47 : decode cX8_read 47 = .ok (.istore 4, 2) := by decide +kernel
theorem dX8_read_49 : decode cX8_read 49 = .ok (.aload_n 0, 1) := by decide +kernel
theorem dX8_read_50 : decode cX8_read 50 = .ok (.getfield 10, 3) := by decide +kernel
theorem dX8_read_53 : decode cX8_read 53 = .ok (.iconst 0, 1) := by decide +kernel
theorem dX8_read_54 : decode cX8_read 54 = .ok (.invokevirtual 66, 3) := by decide +kernel
theorem dX8_read_57 : decode cX8_read 57 = .ok (.iload 4, 2) := by decide +kernel
theorem dX8_read_59 : decode cX8_read 59 = .ok (.ifCond .eq 6, 3) := by decide +kernel
theorem dX8_read_62 : decode cX8_read 62 = .ok (.iload 4, 2) := by decide +kernel
theorem dX8_read_64 : decode cX8_read 64 = .ok (.ireturn, 1) := by decide +kernel
theorem dX8_read_65 : decode cX8_read 65 = .ok (.aload_n 0, 1) := by decide +kernel
theorem dX8_read_66 : decode cX8_read 66 = .ok (.getfield 54, 3) := by decide +kernel
theorem dX8_read_69 : decode cX8_read 69 = .ok (.aload_n 0, 1) := by decide +kernel
theorem dX8_read_70 : decode cX8_read 70 = .ok (.getfield 16, 3) := by decide +kernel
theorem dX8_read_73 : decode cX8_read 73 = .ok (.invokevirtual 77, 3) := by decide +kernel
theorem dX8_read_76 : decode cX8_read 76 = .ok (.aload_n 0, 1) := by decide +kernel
theorem dX8_read_77 : decode cX8_read 77 = .ok (.getfield 16, 3) := by decide +kernel
theorem dX8_read_80 : decode cX8_read 80 = .ok (.getfield 58, 3) := by decide +kernel
theorem dX8_read_83 : decode cX8_read 83 = .ok (.sipush 1000, 3) := by decide +kernel
theorem dX8_read_86 : decode cX8_read 86 = .ok (.if_icmp .le 6, 3) := by decide +kernel
theorem dX8_read_89 : decode cX8_read 89 = .ok (.bipush (-3), 2) := by decide +kernel
theorem dX8_read_91 : decode cX8_read 91 = .ok (.ireturn, 1) := by decide +kernel
theorem dX8_read_92 : decode cX8_read 92 = .ok (.aload_n 0, 1) := by decide +kernel
theorem dX8_read_93 : decode cX8_read 93 = .ok (.getfield 21, 3) := by decide +kernel
theorem dX8_read_96 : decode cX8_read 96 = .ok (.iload_n 1, 1) := by decide +kernel
theorem dX8_read_97 : decode cX8_read 97 = .ok (.aaload, 1) := by decide +kernel
theorem dX8_read_98 : decode cX8_read 98 = .ok (.astore 5, 2) := by decide +kernel
theorem dX8_read_100 : decode cX8_read 100 = .ok (.aload_n 0, 1) := by decide +kernel
theorem dX8_read_101 : decode cX8_read 101 = .ok (.getfield 21, 3) := by decide +kernel
theorem dX8_read_104 : decode cX8_read 104 = .ok (.iload_n 1, 1) := by decide +kernel
theorem dX8_read_105 : decode cX8_read 105 = .ok (.aload_n 0, 1) := by decide +kernel
theorem dX8_read_106 : decode cX8_read 106 = .ok (.getfield 54, 3) := by decide +kernel
theorem dX8_read_109 : decode cX8_read 109 = .ok (.aastore, 1) := by decide +kernel
theorem dX8_read_110 : decode cX8_read 110 = .ok (.aload_n 0, 1) := by decide +kernel
theorem dX8_read_111 : decode cX8_read 111 = .ok (.aload 5, 2) := by decide +kernel
theorem dX8_read_113 : decode cX8_read 113 = .ok (.ifnonnull 13, 3) := by decide +kernel
theorem dX8_read_116 : decode cX8_read 116 = .ok (.new 19, 3) := by decide +kernel
theorem dX8_read_119 : decode cX8_read 119 = .ok (.dup, 1) := by decide +kernel
theorem dX8_read_120 : decode cX8_read 120 = .ok (.invokespecial 53, 3) := by decide +kernel
theorem dX8_read_123 : decode cX8_read 123 = .ok (.goto 5, 3) := by decide +kernel
theorem dX8_read_126 : decode cX8_read 126 = .ok (.aload 5, 2) := by decide +kernel
theorem dX8_read_128 : decode cX8_read 128 = .ok (.putfield 54, 3) := by decide +kernel
theorem dX8_read_131 : decode cX8_read 131 = .ok (.iconst 0, 1) := by decide +kernel
theorem dX8_read_132 : decode cX8_read 132 = .ok (.ireturn, 1) := by decide +kernel
theorem dX8_write_0 : decode cX8_write 0 = .ok (.aload_n 0, 1) := by decide +kernel
theorem dX8_write_1 : decode cX8_write 1 = .ok (.iload_n 1, 1) := by decide +kernel
theorem dX8_write_2 : decode cX8_write 2 = .ok (.invokevirtual 69, 3) := by decide +kernel
theorem dX8_write_5 : decode cX8_write 5 = .ok (.astore_n 2, 1) := by decide +kernel
theorem dX8_write_6 : decode cX8_write 6 = .ok (.aload_n 2, 1) := by decide +kernel
theorem dX8_write_7 : decode cX8_write 7 = .ok (.ifnonnull 6, 3) := by decide +kernel
theorem dX8_write_10 : decode cX8_write 10 = .ok (.bipush (-2), 2) := by decide +kernel
theorem dX8_write_12 : decode cX8_write 12 = .ok (.ireturn, 1) := by decide +kernel
theorem dX8_write_13 : decode cX8_write 13 = .ok (.aload_n 2, 1) := by decide +kernel
theorem dX8_write_14 : decode cX8_write 14 = .ok (.aload_n 0, 1) := by decide +kernel
theorem dX8_write_15 : decode cX8_write 15 = .ok (.getfield 16, 3) := by decide +kernel
theorem dX8_write_18 : decode cX8_write 18 = .ok (.invokevirtual 77, 3) := by decide +kernel
theorem dX8_write_21 : decode cX8_write 21 = .ok (.aload_n 0, 1) := by decide +kernel
theorem dX8_write_22 : decode cX8_write 22 = .ok (.getfield 16, 3) := by decide +kernel
theorem dX8_write_25 : decode cX8_write 25 = .ok (.getfield 58, 3) := by decide +kernel
theorem dX8_write_28 : decode cX8_write 28 = .ok (.sipush 300, 3) := by decide +kernel
theorem dX8_write_31 : decode cX8_write 31 = .ok (.if_icmp .le 6, 3) := by decide +kernel
theorem dX8_write_34 : decode cX8_write 34 = .ok (.bipush (-3), 2) := by decide +kernel
theorem dX8_write_36 : decode cX8_write 36 = .ok (.ireturn, 1) := by decide +kernel
theorem dX8_write_37 : decode cX8_write 37 = .ok (.aload_n 0, 1) := by decide +kernel
theorem dX8_write_38 : decode cX8_write 38 = .ok (.getfield 10, 3) := by decide +kernel
theorem dX8_write_41 : decode cX8_write 41 = .ok (.aload_n 0, 1) := by decide +kernel
theorem dX8_write_42 : decode cX8_write 42 = .ok (.getfield 16, 3) := by decide +kernel
theorem dX8_write_45 : decode cX8_write 45 = .ok (.invokevirtual 81, 3) := by decide +kernel
theorem dX8_write_48 : decode cX8_write 48 = .ok (.aload_n 0, 1) := by decide +kernel
theorem dX8_write_49 : decode cX8_write 49 = .ok (.getfield 10, 3) := by decide +kernel
theorem dX8_write_52 : decode cX8_write 52 = .ok (.getfield 58, 3) := by decide +kernel
theorem dX8_write_55 : decode cX8_write 55 = .ok (.ireturn, 1) := by decide +kernel
theorem dX8_at_0 : decode cX8_at 0 = .ok (.aload_n 0, 1) := by decide +kernel
theorem dX8_at_1 : decode cX8_at 1 = .ok (.getfield 10, 3) := by decide +kernel
theorem dX8_at_4 : decode cX8_at 4 = .ok (.iload_n 1, 1) := by decide +kernel
theorem dX8_at_5 : decode cX8_at 5 = .ok (.invokevirtual 84, 3) := by decide +kernel
theorem dX8_at_8 : decode cX8_at 8 = .ok (.ireturn, 1) := by decide +kernel
theorem dX6_rowOf_0 : decode cX6_rowOf 0 = .ok (.iload_n 1, 1) := by decide +kernel
theorem dX6_rowOf_1 : decode cX6_rowOf 1 = .ok (.tableswitch 103 0 6 #[43, 48, 53, 58, 66, 71, 87], 43) := by decide +kernel
theorem dX6_rowOf_44 : decode cX6_rowOf 44 = .ok (.aload_n 0, 1) := by decide +kernel
theorem dX6_rowOf_45 : decode cX6_rowOf 45 = .ok (.getfield 18, 3) := by decide +kernel
theorem dX6_rowOf_48 : decode cX6_rowOf 48 = .ok (.areturn, 1) := by decide +kernel
theorem dX6_rowOf_49 : decode cX6_rowOf 49 = .ok (.aload_n 0, 1) := by decide +kernel
theorem dX6_rowOf_50 : decode cX6_rowOf 50 = .ok (.getfield 22, 3) := by decide +kernel
theorem dX6_rowOf_53 : decode cX6_rowOf 53 = .ok (.areturn, 1) := by decide +kernel
theorem dX6_rowOf_54 : decode cX6_rowOf 54 = .ok (.aload_n 0, 1) := by decide +kernel
theorem dX6_rowOf_55 : decode cX6_rowOf 55 = .ok (.getfield 25, 3) := by decide +kernel
theorem dX6_rowOf_58 : decode cX6_rowOf 58 = .ok (.areturn, 1) := by decide +kernel
theorem dX6_rowOf_59 : decode cX6_rowOf 59 = .ok (.aload_n 0, 1) := by decide +kernel
theorem dX6_rowOf_60 : decode cX6_rowOf 60 = .ok (.getfield 31, 3) := by decide +kernel
theorem dX6_rowOf_63 : decode cX6_rowOf 63 = .ok (.getfield 107, 3) := by decide +kernel
theorem dX6_rowOf_66 : decode cX6_rowOf 66 = .ok (.areturn, 1) := by decide +kernel
theorem dX6_rowOf_67 : decode cX6_rowOf 67 = .ok (.aload_n 0, 1) := by decide +kernel
theorem dX6_rowOf_68 : decode cX6_rowOf 68 = .ok (.getfield 38, 3) := by decide +kernel
theorem dX6_rowOf_71 : decode cX6_rowOf 71 = .ok (.areturn, 1) := by decide +kernel
theorem dX6_rowOf_72 : decode cX6_rowOf 72 = .ok (.aload_n 0, 1) := by decide +kernel
theorem dX6_rowOf_73 : decode cX6_rowOf 73 = .ok (.getfield 47, 3) := by decide +kernel
theorem dX6_rowOf_76 : decode cX6_rowOf 76 = .ok (.ifCond .eq 10, 3) := by decide +kernel
theorem dX6_rowOf_79 : decode cX6_rowOf 79 = .ok (.aload_n 0, 1) := by decide +kernel
theorem dX6_rowOf_80 : decode cX6_rowOf 80 = .ok (.getfield 44, 3) := by decide +kernel
theorem dX6_rowOf_83 : decode cX6_rowOf 83 = .ok (.goto 4, 3) := by decide +kernel
theorem dX6_rowOf_86 : decode cX6_rowOf 86 = .ok (.aconst_null, 1) := by decide +kernel
theorem dX6_rowOf_87 : decode cX6_rowOf 87 = .ok (.areturn, 1) := by decide +kernel
theorem dX6_rowOf_88 : decode cX6_rowOf 88 = .ok (.aload_n 0, 1) := by decide +kernel
theorem dX6_rowOf_89 : decode cX6_rowOf 89 = .ok (.getfield 54, 3) := by decide +kernel
theorem dX6_rowOf_92 : decode cX6_rowOf 92 = .ok (.ifCond .eq 10, 3) := by decide +kernel
theorem dX6_rowOf_95 : decode cX6_rowOf 95 = .ok (.aload_n 0, 1) := by decide +kernel
theorem dX6_rowOf_96 : decode cX6_rowOf 96 = .ok (.getfield 51, 3) := by decide +kernel
theorem dX6_rowOf_99 : decode cX6_rowOf 99 = .ok (.goto 4, 3) := by decide +kernel
theorem dX6_rowOf_102 : decode cX6_rowOf 102 = .ok (.aconst_null, 1) := by decide +kernel
theorem dX6_rowOf_103 : decode cX6_rowOf 103 = .ok (.areturn, 1) := by decide +kernel
theorem dX6_rowOf_104 : decode cX6_rowOf 104 = .ok (.aconst_null, 1) := by decide +kernel
theorem dX6_rowOf_105 : decode cX6_rowOf 105 = .ok (.areturn, 1) := by decide +kernel
theorem dX8_size_0 : decode cX8_size 0 = .ok (.aload_n 0, 1) := by decide +kernel
theorem dX8_size_1 : decode cX8_size 1 = .ok (.iload_n 1, 1) := by decide +kernel
theorem dX8_size_2 : decode cX8_size 2 = .ok (.invokevirtual 69, 3) := by decide +kernel
theorem dX8_size_5 : decode cX8_size 5 = .ok (.astore_n 3, 1) := by decide +kernel
theorem dX8_size_6 : decode cX8_size 6 = .ok (.aload_n 3, 1) := by decide +kernel
theorem dX8_size_7 : decode cX8_size 7 = .ok (.ifnull 13, 3) := by decide +kernel
theorem dX8_size_10 : decode cX8_size 10 = .ok (.iload_n 2, 1) := by decide +kernel
theorem dX8_size_11 : decode cX8_size 11 = .ok (.ifCond .lt 9, 3) := by decide +kernel
theorem dX8_size_14 : decode cX8_size 14 = .ok (.iload_n 2, 1) := by decide +kernel
theorem dX8_size_15 : decode cX8_size 15 = .ok (.bipush 7, 2) := by decide +kernel
theorem dX8_size_17 : decode cX8_size 17 = .ok (.if_icmp .lt 6, 3) := by decide +kernel
theorem dX8_size_20 : decode cX8_size 20 = .ok (.bipush (-2), 2) := by decide +kernel
theorem dX8_size_22 : decode cX8_size 22 = .ok (.ireturn, 1) := by decide +kernel
theorem dX8_size_23 : decode cX8_size 23 = .ok (.aload_n 3, 1) := by decide +kernel
theorem dX8_size_24 : decode cX8_size 24 = .ok (.iload_n 2, 1) := by decide +kernel
theorem dX8_size_25 : decode cX8_size 25 = .ok (.invokevirtual 88, 3) := by decide +kernel
theorem dX8_size_28 : decode cX8_size 28 = .ok (.astore 4, 2) := by decide +kernel
theorem dX8_size_30 : decode cX8_size 30 = .ok (.aload 4, 2) := by decide +kernel
theorem dX8_size_32 : decode cX8_size 32 = .ok (.ifnonnull 7, 3) := by decide +kernel
theorem dX8_size_35 : decode cX8_size 35 = .ok (.iconst (-1), 1) := by decide +kernel
theorem dX8_size_36 : decode cX8_size 36 = .ok (.goto 8, 3) := by decide +kernel
theorem dX8_size_39 : decode cX8_size 39 = .ok (.aload 4, 2) := by decide +kernel
theorem dX8_size_41 : decode cX8_size 41 = .ok (.getfield 58, 3) := by decide +kernel
theorem dX8_size_44 : decode cX8_size 44 = .ok (.ireturn, 1) := by decide +kernel
theorem dX8_part_0 : decode cX8_part 0 = .ok (.aload_n 0, 1) := by decide +kernel
theorem dX8_part_1 : decode cX8_part 1 = .ok (.iload_n 1, 1) := by decide +kernel
theorem dX8_part_2 : decode cX8_part 2 = .ok (.invokevirtual 69, 3) := by decide +kernel
theorem dX8_part_5 : decode cX8_part 5 = .ok (.astore 4, 2) := by decide +kernel
theorem dX8_part_7 : decode cX8_part 7 = .ok (.aload 4, 2) := by decide +kernel
theorem dX8_part_9 : decode cX8_part 9 = .ok (.ifnull 13, 3) := by decide +kernel
theorem dX8_part_12 : decode cX8_part 12 = .ok (.iload_n 2, 1) := by decide +kernel
theorem dX8_part_13 : decode cX8_part 13 = .ok (.ifCond .lt 9, 3) := by decide +kernel
theorem dX8_part_16 : decode cX8_part 16 = .ok (.iload_n 2, 1) := by decide +kernel
theorem dX8_part_17 : decode cX8_part 17 = .ok (.bipush 7, 2) := by decide +kernel
theorem dX8_part_19 : decode cX8_part 19 = .ok (.if_icmp .lt 6, 3) := by decide +kernel
theorem dX8_part_22 : decode cX8_part 22 = .ok (.bipush (-2), 2) := by decide +kernel
theorem dX8_part_24 : decode cX8_part 24 = .ok (.ireturn, 1) := by decide +kernel
theorem dX8_part_25 : decode cX8_part 25 = .ok (.aload 4, 2) := by decide +kernel
theorem dX8_part_27 : decode cX8_part 27 = .ok (.iload_n 2, 1) := by decide +kernel
theorem dX8_part_28 : decode cX8_part 28 = .ok (.invokevirtual 88, 3) := by decide +kernel
theorem dX8_part_31 : decode cX8_part 31 = .ok (.astore 5, 2) := by decide +kernel
theorem dX8_part_33 : decode cX8_part 33 = .ok (.aload 5, 2) := by decide +kernel
theorem dX8_part_35 : decode cX8_part 35 = .ok (.ifnonnull 7, 3) := by decide +kernel
theorem dX8_part_38 : decode cX8_part 38 = .ok (.iconst (-1), 1) := by decide +kernel
theorem dX8_part_39 : decode cX8_part 39 = .ok (.goto 9, 3) := by decide +kernel
theorem dX8_part_42 : decode cX8_part 42 = .ok (.aload 5, 2) := by decide +kernel
theorem dX8_part_44 : decode cX8_part 44 = .ok (.iload_n 3, 1) := by decide +kernel
theorem dX8_part_45 : decode cX8_part 45 = .ok (.invokevirtual 84, 3) := by decide +kernel
theorem dX8_part_48 : decode cX8_part 48 = .ok (.ireturn, 1) := by decide +kernel
theorem dX6_portThatCounts_0 : decode cX6_portThatCounts 0 = .ok (.aload_n 0, 1) := by decide +kernel
theorem dX6_portThatCounts_1 : decode cX6_portThatCounts 1 = .ok (.getfield 35, 3) := by decide +kernel
theorem dX6_portThatCounts_4 : decode cX6_portThatCounts 4 = .ok (.iconst (-1), 1) := by decide +kernel
theorem dX6_portThatCounts_5 : decode cX6_portThatCounts 5 = .ok (.if_icmp .ne 13, 3) := by decide +kernel
theorem dX6_portThatCounts_8 : decode cX6_portThatCounts 8 = .ok (.aload_n 0, 1) := by decide +kernel
theorem dX6_portThatCounts_9 : decode cX6_portThatCounts 9 = .ok (.getfield 11, 3) := by decide +kernel
theorem dX6_portThatCounts_12 : decode cX6_portThatCounts 12 = .ok (.invokestatic 96, 3) := by decide +kernel
theorem dX6_portThatCounts_15 : decode cX6_portThatCounts 15 = .ok (.goto 7, 3) := by decide +kernel
theorem dX6_portThatCounts_18 : decode cX6_portThatCounts 18 = .ok (.aload_n 0, 1) := by decide +kernel
theorem dX6_portThatCounts_19 : decode cX6_portThatCounts 19 = .ok (.getfield 35, 3) := by decide +kernel
theorem dX6_portThatCounts_22 : decode cX6_portThatCounts 22 = .ok (.ireturn, 1) := by decide +kernel
theorem dX8_told_0 : decode cX8_told 0 = .ok (.aload_n 0, 1) := by decide +kernel
theorem dX8_told_1 : decode cX8_told 1 = .ok (.iload_n 1, 1) := by decide +kernel
theorem dX8_told_2 : decode cX8_told 2 = .ok (.invokevirtual 69, 3) := by decide +kernel
theorem dX8_told_5 : decode cX8_told 5 = .ok (.astore_n 3, 1) := by decide +kernel
theorem dX8_told_6 : decode cX8_told 6 = .ok (.aload_n 3, 1) := by decide +kernel
theorem dX8_told_7 : decode cX8_told 7 = .ok (.ifnonnull 6, 3) := by decide +kernel
theorem dX8_told_10 : decode cX8_told 10 = .ok (.bipush (-2), 2) := by decide +kernel
theorem dX8_told_12 : decode cX8_told 12 = .ok (.ireturn, 1) := by decide +kernel
theorem dX8_told_13 : decode cX8_told 13 = .ok (.iload_n 2, 1) := by decide +kernel
theorem dX8_told_14 : decode cX8_told 14 = .ok (.tableswitch 56 0 3 #[30, 35, 40, 51], 30) := by decide +kernel
theorem dX8_told_44 : decode cX8_told 44 = .ok (.aload_n 3, 1) := by decide +kernel
theorem dX8_told_45 : decode cX8_told 45 = .ok (.getfield 92, 3) := by decide +kernel
theorem dX8_told_48 : decode cX8_told 48 = .ok (.ireturn, 1) := by decide +kernel
theorem dX8_told_49 : decode cX8_told 49 = .ok (.aload_n 3, 1) := by decide +kernel
theorem dX8_told_50 : decode cX8_told 50 = .ok (.invokevirtual 95, 3) := by decide +kernel
theorem dX8_told_53 : decode cX8_told 53 = .ok (.ireturn, 1) := by decide +kernel
theorem dX8_told_54 : decode cX8_told 54 = .ok (.aload_n 3, 1) := by decide +kernel
theorem dX8_told_55 : decode cX8_told 55 = .ok (.getfield 99, 3) := by decide +kernel
theorem dX8_told_58 : decode cX8_told 58 = .ok (.getfield 102, 3) := by decide +kernel
theorem dX8_told_61 : decode cX8_told 61 = .ok (.getfield 106, 3) := by decide +kernel
theorem dX8_told_64 : decode cX8_told 64 = .ok (.ireturn, 1) := by decide +kernel
theorem dX8_told_65 : decode cX8_told 65 = .ok (.aload_n 3, 1) := by decide +kernel
theorem dX8_told_66 : decode cX8_told 66 = .ok (.getfield 111, 3) := by decide +kernel
theorem dX8_told_69 : decode cX8_told 69 = .ok (.ireturn, 1) := by decide +kernel
theorem dX8_told_70 : decode cX8_told 70 = .ok (.bipush (-2), 2) := by decide +kernel
theorem dX8_told_72 : decode cX8_told 72 = .ok (.ireturn, 1) := by decide +kernel
theorem dX8_number_0 : decode cX8_number 0 = .ok (.aload_n 0, 1) := by decide +kernel
theorem dX8_number_1 : decode cX8_number 1 = .ok (.iload_n 1, 1) := by decide +kernel
theorem dX8_number_2 : decode cX8_number 2 = .ok (.invokevirtual 69, 3) := by decide +kernel
theorem dX8_number_5 : decode cX8_number 5 = .ok (.astore_n 3, 1) := by decide +kernel
theorem dX8_number_6 : decode cX8_number 6 = .ok (.aload_n 3, 1) := by decide +kernel
theorem dX8_number_7 : decode cX8_number 7 = .ok (.ifnull 13, 3) := by decide +kernel
theorem dX8_number_10 : decode cX8_number 10 = .ok (.iload_n 2, 1) := by decide +kernel
theorem dX8_number_11 : decode cX8_number 11 = .ok (.ifCond .lt 9, 3) := by decide +kernel
theorem dX8_number_14 : decode cX8_number 14 = .ok (.iload_n 2, 1) := by decide +kernel
theorem dX8_number_15 : decode cX8_number 15 = .ok (.bipush 7, 2) := by decide +kernel
theorem dX8_number_17 : decode cX8_number 17 = .ok (.if_icmp .le 6, 3) := by decide +kernel
theorem dX8_number_20 : decode cX8_number 20 = .ok (.bipush (-2), 2) := by decide +kernel
theorem dX8_number_22 : decode cX8_number 22 = .ok (.ireturn, 1) := by decide +kernel
theorem dX8_number_23 : decode cX8_number 23 = .ok (.aload_n 3, 1) := by decide +kernel
theorem dX8_number_24 : decode cX8_number 24 = .ok (.getfield 99, 3) := by decide +kernel
theorem dX8_number_27 : decode cX8_number 27 = .ok (.getfield 102, 3) := by decide +kernel
theorem dX8_number_30 : decode cX8_number 30 = .ok (.iload_n 2, 1) := by decide +kernel
theorem dX8_number_31 : decode cX8_number 31 = .ok (.invokevirtual 114, 3) := by decide +kernel
theorem dX8_number_34 : decode cX8_number 34 = .ok (.ireturn, 1) := by decide +kernel
theorem dX5_endsWith_0 : decode cX5_endsWith 0 = .ok (.aload_n 0, 1) := by decide +kernel
theorem dX5_endsWith_1 : decode cX5_endsWith 1 = .ok (.getfield 15, 3) := by decide +kernel
theorem dX5_endsWith_4 : decode cX5_endsWith 4 = .ok (.aload_n 1, 1) := by decide +kernel
theorem dX5_endsWith_5 : decode cX5_endsWith 5 = .ok (.getfield 15, 3) := by decide +kernel
theorem dX5_endsWith_8 : decode cX5_endsWith 8 = .ok (.isub, 1) := by decide +kernel
theorem dX5_endsWith_9 : decode cX5_endsWith 9 = .ok (.istore_n 2, 1) := by decide +kernel
theorem dX5_endsWith_10 : decode cX5_endsWith 10 = .ok (.iload_n 2, 1) := by decide +kernel
theorem dX5_endsWith_11 : decode cX5_endsWith 11 = .ok (.ifCond .ge 5, 3) := by decide +kernel
theorem dX5_endsWith_14 : decode cX5_endsWith 14 = .ok (.iconst 0, 1) := by decide +kernel
theorem dX5_endsWith_15 : decode cX5_endsWith 15 = .ok (.ireturn, 1) := by decide +kernel
theorem dX5_endsWith_16 : decode cX5_endsWith 16 = .ok (.iconst 0, 1) := by decide +kernel
theorem dX5_endsWith_17 : decode cX5_endsWith 17 = .ok (.istore_n 3, 1) := by decide +kernel
theorem dX5_endsWith_18 : decode cX5_endsWith 18 = .ok (.iload_n 3, 1) := by decide +kernel
theorem dX5_endsWith_19 : decode cX5_endsWith 19 = .ok (.aload_n 1, 1) := by decide +kernel
theorem dX5_endsWith_20 : decode cX5_endsWith 20 = .ok (.getfield 15, 3) := by decide +kernel
theorem dX5_endsWith_23 : decode cX5_endsWith 23 = .ok (.if_icmp .ge 26, 3) := by decide +kernel
theorem dX5_endsWith_26 : decode cX5_endsWith 26 = .ok (.aload_n 0, 1) := by decide +kernel
theorem dX5_endsWith_27 : decode cX5_endsWith 27 = .ok (.iload_n 2, 1) := by decide +kernel
theorem dX5_endsWith_28 : decode cX5_endsWith 28 = .ok (.iload_n 3, 1) := by decide +kernel
theorem dX5_endsWith_29 : decode cX5_endsWith 29 = .ok (.iadd, 1) := by decide +kernel
theorem dX5_endsWith_30 : decode cX5_endsWith 30 = .ok (.invokevirtual 25, 3) := by decide +kernel
theorem dX5_endsWith_33 : decode cX5_endsWith 33 = .ok (.aload_n 1, 1) := by decide +kernel
theorem dX5_endsWith_34 : decode cX5_endsWith 34 = .ok (.iload_n 3, 1) := by decide +kernel
theorem dX5_endsWith_35 : decode cX5_endsWith 35 = .ok (.invokevirtual 25, 3) := by decide +kernel
theorem dX5_endsWith_38 : decode cX5_endsWith 38 = .ok (.if_icmp .eq 5, 3) := by decide +kernel
theorem dX5_endsWith_41 : decode cX5_endsWith 41 = .ok (.iconst 0, 1) := by decide +kernel
theorem dX5_endsWith_42 : decode cX5_endsWith 42 = .ok (.ireturn, 1) := by decide +kernel
theorem dX5_endsWith_43 : decode cX5_endsWith 43 = .ok (.iinc 3 1, 3) := by decide +kernel
theorem dX5_endsWith_46 : decode cX5_endsWith 46 = .ok (.goto (-28), 3) := by decide +kernel
theorem dX5_endsWith_49 : decode cX5_endsWith 49 = .ok (.iconst 1, 1) := by decide +kernel
theorem dX5_endsWith_50 : decode cX5_endsWith 50 = .ok (.ireturn, 1) := by decide +kernel
theorem dX5_equalsRow_0 : decode cX5_equalsRow 0 = .ok (.aload_n 0, 1) := by decide +kernel
theorem dX5_equalsRow_1 : decode cX5_equalsRow 1 = .ok (.getfield 15, 3) := by decide +kernel
theorem dX5_equalsRow_4 : decode cX5_equalsRow 4 = .ok (.aload_n 1, 1) := by decide +kernel
theorem dX5_equalsRow_5 : decode cX5_equalsRow 5 = .ok (.getfield 15, 3) := by decide +kernel
theorem dX5_equalsRow_8 : decode cX5_equalsRow 8 = .ok (.if_icmp .ne 15, 3) := by decide +kernel
theorem dX5_equalsRow_11 : decode cX5_equalsRow 11 = .ok (.aload_n 0, 1) := by decide +kernel
theorem dX5_equalsRow_12 : decode cX5_equalsRow 12 = .ok (.aload_n 1, 1) := by decide +kernel
theorem dX5_equalsRow_13 : decode cX5_equalsRow 13 = .ok (.invokevirtual 52, 3) := by decide +kernel
theorem dX5_equalsRow_16 : decode cX5_equalsRow 16 = .ok (.ifCond .eq 7, 3) := by decide +kernel
theorem dX5_equalsRow_19 : decode cX5_equalsRow 19 = .ok (.iconst 1, 1) := by decide +kernel
theorem dX5_equalsRow_20 : decode cX5_equalsRow 20 = .ok (.goto 4, 3) := by decide +kernel
theorem dX5_equalsRow_23 : decode cX5_equalsRow 23 = .ok (.iconst 0, 1) := by decide +kernel
theorem dX5_equalsRow_24 : decode cX5_equalsRow 24 = .ok (.ireturn, 1) := by decide +kernel
theorem dX3_equalsHost_0 : decode cX3_equalsHost 0 = .ok (.aload_n 0, 1) := by decide +kernel
theorem dX3_equalsHost_1 : decode cX3_equalsHost 1 = .ok (.getfield 10, 3) := by decide +kernel
theorem dX3_equalsHost_4 : decode cX3_equalsHost 4 = .ok (.getfield 23, 3) := by decide +kernel
theorem dX3_equalsHost_7 : decode cX3_equalsHost 7 = .ok (.aload_n 1, 1) := by decide +kernel
theorem dX3_equalsHost_8 : decode cX3_equalsHost 8 = .ok (.getfield 10, 3) := by decide +kernel
theorem dX3_equalsHost_11 : decode cX3_equalsHost 11 = .ok (.getfield 23, 3) := by decide +kernel
theorem dX3_equalsHost_14 : decode cX3_equalsHost 14 = .ok (.if_icmp .ne 21, 3) := by decide +kernel
theorem dX3_equalsHost_17 : decode cX3_equalsHost 17 = .ok (.aload_n 0, 1) := by decide +kernel
theorem dX3_equalsHost_18 : decode cX3_equalsHost 18 = .ok (.getfield 19, 3) := by decide +kernel
theorem dX3_equalsHost_21 : decode cX3_equalsHost 21 = .ok (.aload_n 1, 1) := by decide +kernel
theorem dX3_equalsHost_22 : decode cX3_equalsHost 22 = .ok (.getfield 19, 3) := by decide +kernel
theorem dX3_equalsHost_25 : decode cX3_equalsHost 25 = .ok (.invokevirtual 34, 3) := by decide +kernel
theorem dX3_equalsHost_28 : decode cX3_equalsHost 28 = .ok (.ifCond .eq 7, 3) := by decide +kernel
theorem dX3_equalsHost_31 : decode cX3_equalsHost 31 = .ok (.iconst 1, 1) := by decide +kernel
theorem dX3_equalsHost_32 : decode cX3_equalsHost 32 = .ok (.goto 4, 3) := by decide +kernel
theorem dX3_equalsHost_35 : decode cX3_equalsHost 35 = .ok (.iconst 0, 1) := by decide +kernel
theorem dX3_equalsHost_36 : decode cX3_equalsHost 36 = .ok (.ireturn, 1) := by decide +kernel
theorem dX6_hasOriginOf_0 : decode cX6_hasOriginOf 0 = .ok (.aload_n 0, 1) := by decide +kernel
theorem dX6_hasOriginOf_1 : decode cX6_hasOriginOf 1 = .ok (.getfield 11, 3) := by decide +kernel
theorem dX6_hasOriginOf_4 : decode cX6_hasOriginOf 4 = .ok (.aload_n 1, 1) := by decide +kernel
theorem dX6_hasOriginOf_5 : decode cX6_hasOriginOf 5 = .ok (.getfield 11, 3) := by decide +kernel
theorem dX6_hasOriginOf_8 : decode cX6_hasOriginOf 8 = .ok (.if_icmp .ne 32, 3) := by decide +kernel
theorem dX6_hasOriginOf_11 : decode cX6_hasOriginOf 11 = .ok (.aload_n 0, 1) := by decide +kernel
theorem dX6_hasOriginOf_12 : decode cX6_hasOriginOf 12 = .ok (.getfield 31, 3) := by decide +kernel
theorem dX6_hasOriginOf_15 : decode cX6_hasOriginOf 15 = .ok (.aload_n 1, 1) := by decide +kernel
theorem dX6_hasOriginOf_16 : decode cX6_hasOriginOf 16 = .ok (.getfield 31, 3) := by decide +kernel
theorem dX6_hasOriginOf_19 : decode cX6_hasOriginOf 19 = .ok (.invokevirtual 99, 3) := by decide +kernel
theorem dX6_hasOriginOf_22 : decode cX6_hasOriginOf 22 = .ok (.ifCond .eq 18, 3) := by decide +kernel
theorem dX6_hasOriginOf_25 : decode cX6_hasOriginOf 25 = .ok (.aload_n 0, 1) := by decide +kernel
theorem dX6_hasOriginOf_26 : decode cX6_hasOriginOf 26 = .ok (.invokevirtual 103, 3) := by decide +kernel
theorem dX6_hasOriginOf_29 : decode cX6_hasOriginOf 29 = .ok (.aload_n 1, 1) := by decide +kernel
theorem dX6_hasOriginOf_30 : decode cX6_hasOriginOf 30 = .ok (.invokevirtual 103, 3) := by decide +kernel
theorem dX6_hasOriginOf_33 : decode cX6_hasOriginOf 33 = .ok (.if_icmp .ne 7, 3) := by decide +kernel
theorem dX6_hasOriginOf_36 : decode cX6_hasOriginOf 36 = .ok (.iconst 1, 1) := by decide +kernel
theorem dX6_hasOriginOf_37 : decode cX6_hasOriginOf 37 = .ok (.goto 4, 3) := by decide +kernel
theorem dX6_hasOriginOf_40 : decode cX6_hasOriginOf 40 = .ok (.iconst 0, 1) := by decide +kernel
theorem dX6_hasOriginOf_41 : decode cX6_hasOriginOf 41 = .ok (.ireturn, 1) := by decide +kernel
theorem dX8_same_0 : decode cX8_same 0 = .ok (.aload_n 0, 1) := by decide +kernel
theorem dX8_same_1 : decode cX8_same 1 = .ok (.iload_n 1, 1) := by decide +kernel
theorem dX8_same_2 : decode cX8_same 2 = .ok (.invokevirtual 69, 3) := by decide +kernel
theorem dX8_same_5 : decode cX8_same 5 = .ok (.astore_n 3, 1) := by decide +kernel
theorem dX8_same_6 : decode cX8_same 6 = .ok (.aload_n 0, 1) := by decide +kernel
theorem dX8_same_7 : decode cX8_same 7 = .ok (.iload_n 2, 1) := by decide +kernel
theorem dX8_same_8 : decode cX8_same 8 = .ok (.invokevirtual 69, 3) := by decide +kernel
theorem dX8_same_11 : decode cX8_same 11 = .ok (.astore 4, 2) := by decide +kernel
theorem dX8_same_13 : decode cX8_same 13 = .ok (.aload_n 3, 1) := by decide +kernel
theorem dX8_same_14 : decode cX8_same 14 = .ok (.ifnull 8, 3) := by decide +kernel
theorem dX8_same_17 : decode cX8_same 17 = .ok (.aload 4, 2) := by decide +kernel
theorem dX8_same_19 : decode cX8_same 19 = .ok (.ifnonnull 6, 3) := by decide +kernel
theorem dX8_same_22 : decode cX8_same 22 = .ok (.bipush (-2), 2) := by decide +kernel
theorem dX8_same_24 : decode cX8_same 24 = .ok (.ireturn, 1) := by decide +kernel
theorem dX8_same_25 : decode cX8_same 25 = .ok (.aload_n 3, 1) := by decide +kernel
theorem dX8_same_26 : decode cX8_same 26 = .ok (.aload 4, 2) := by decide +kernel
theorem dX8_same_28 : decode cX8_same 28 = .ok (.invokevirtual 117, 3) := by decide +kernel
theorem dX8_same_31 : decode cX8_same 31 = .ok (.ifCond .eq 7, 3) := by decide +kernel
theorem dX8_same_34 : decode cX8_same 34 = .ok (.iconst 1, 1) := by decide +kernel
theorem dX8_same_35 : decode cX8_same 35 = .ok (.goto 4, 3) := by decide +kernel
theorem dX8_same_38 : decode cX8_same 38 = .ok (.iconst 0, 1) := by decide +kernel
theorem dX8_same_39 : decode cX8_same 39 = .ok (.ireturn, 1) := by decide +kernel
theorem dX8_hearHost_0 : decode cX8_hearHost 0 = .ok (.aload_n 0, 1) := by decide +kernel
theorem dX8_hearHost_1 : decode cX8_hearHost 1 = .ok (.getfield 35, 3) := by decide +kernel
theorem dX8_hearHost_4 : decode cX8_hearHost 4 = .ok (.aload_n 0, 1) := by decide +kernel
theorem dX8_hearHost_5 : decode cX8_hearHost 5 = .ok (.getfield 10, 3) := by decide +kernel
theorem dX8_hearHost_8 : decode cX8_hearHost 8 = .ok (.iconst 0, 1) := by decide +kernel
theorem dX8_hearHost_9 : decode cX8_hearHost 9 = .ok (.aload_n 0, 1) := by decide +kernel
theorem dX8_hearHost_10 : decode cX8_hearHost 10 = .ok (.getfield 10, 3) := by decide +kernel
theorem dX8_hearHost_13 : decode cX8_hearHost 13 = .ok (.getfield 58, 3) := by decide +kernel
theorem dX8_hearHost_16 : decode cX8_hearHost 16 = .ok (.aload_n 0, 1) := by decide +kernel
theorem dX8_hearHost_17 : decode cX8_hearHost 17 = .ok (.getfield 28, 3) := by decide +kernel
theorem dX8_hearHost_20 : decode cX8_hearHost 20 = .ok (.invokevirtual 150, 3) := by decide +kernel
theorem dX8_hearHost_23 : decode cX8_hearHost 23 = .ok (.istore_n 1, 1) := by decide +kernel
theorem dX8_hearHost_24 : decode cX8_hearHost 24 = .ok (.aload_n 0, 1) := by decide +kernel
theorem dX8_hearHost_25 : decode cX8_hearHost 25 = .ok (.getfield 10, 3) := by decide +kernel
theorem dX8_hearHost_28 : decode cX8_hearHost 28 = .ok (.iconst 0, 1) := by decide +kernel
theorem dX8_hearHost_29 : decode cX8_hearHost 29 = .ok (.invokevirtual 66, 3) := by decide +kernel
theorem dX8_hearHost_32 : decode cX8_hearHost 32 = .ok (.iload_n 1, 1) := by decide +kernel
theorem dX8_hearHost_33 : decode cX8_hearHost 33 = .ok (.ireturn, 1) := by decide +kernel
theorem dX3_isName_0 : decode cX3_isName 0 = .ok (.aload_n 0, 1) := by decide +kernel
theorem dX3_isName_1 : decode cX3_isName 1 = .ok (.getfield 10, 3) := by decide +kernel
theorem dX3_isName_4 : decode cX3_isName 4 = .ok (.getfield 23, 3) := by decide +kernel
theorem dX3_isName_7 : decode cX3_isName 7 = .ok (.ifCond .ne 7, 3) := by decide +kernel
theorem dX3_isName_10 : decode cX3_isName 10 = .ok (.iconst 1, 1) := by decide +kernel
theorem dX3_isName_11 : decode cX3_isName 11 = .ok (.goto 4, 3) := by decide +kernel
theorem dX3_isName_14 : decode cX3_isName 14 = .ok (.iconst 0, 1) := by decide +kernel
theorem dX3_isName_15 : decode cX3_isName 15 = .ok (.ireturn, 1) := by decide +kernel
theorem dX2_addHost_0 : decode cX2_addHost 0 = .ok (.aload_n 0, 1) := by decide +kernel
theorem dX2_addHost_1 : decode cX2_addHost 1 = .ok (.getfield 21, 3) := by decide +kernel
theorem dX2_addHost_4 : decode cX2_addHost 4 = .ok (.bipush 12, 2) := by decide +kernel
theorem dX2_addHost_6 : decode cX2_addHost 6 = .ok (.if_icmp .lt 6, 3) := by decide +kernel
theorem dX2_addHost_9 : decode cX2_addHost 9 = .ok (.bipush (-3), 2) := by decide +kernel
theorem dX2_addHost_11 : decode cX2_addHost 11 = .ok (.ireturn, 1) := by decide +kernel
theorem dX2_addHost_12 : decode cX2_addHost 12 = .ok (.new 11, 3) := by decide +kernel
theorem dX2_addHost_15 : decode cX2_addHost 15 = .ok (.dup, 1) := by decide +kernel
theorem dX2_addHost_16 : decode cX2_addHost 16 = .ok (.invokespecial 50, 3) := by decide +kernel
theorem dX2_addHost_19 : decode cX2_addHost 19 = .ok (.astore_n 3, 1) := by decide +kernel
theorem dX2_addHost_20 : decode cX2_addHost 20 = .ok (.aload_n 3, 1) := by decide +kernel
theorem dX2_addHost_21 : decode cX2_addHost 21 = .ok (.aload_n 1, 1) := by decide +kernel
theorem dX2_addHost_22 : decode cX2_addHost 22 = .ok (.invokevirtual 51, 3) := by decide +kernel
theorem dX2_addHost_25 : decode cX2_addHost 25 = .ok (.aload_n 0, 1) := by decide +kernel
theorem dX2_addHost_26 : decode cX2_addHost 26 = .ok (.getfield 13, 3) := by decide +kernel
theorem dX2_addHost_29 : decode cX2_addHost 29 = .ok (.aload_n 0, 1) := by decide +kernel
theorem dX2_addHost_30 : decode cX2_addHost 30 = .ok (.getfield 21, 3) := by decide +kernel
theorem dX2_addHost_33 : decode cX2_addHost 33 = .ok (.aload_n 3, 1) := by decide +kernel
theorem dX2_addHost_34 : decode cX2_addHost 34 = .ok (.aastore, 1) := by decide +kernel
theorem dX2_addHost_35 : decode cX2_addHost 35 = .ok (.aload_n 0, 1) := by decide +kernel
theorem dX2_addHost_36 : decode cX2_addHost 36 = .ok (.getfield 17, 3) := by decide +kernel
theorem dX2_addHost_39 : decode cX2_addHost 39 = .ok (.aload_n 0, 1) := by decide +kernel
theorem dX2_addHost_40 : decode cX2_addHost 40 = .ok (.getfield 21, 3) := by decide +kernel
theorem dX2_addHost_43 : decode cX2_addHost 43 = .ok (.iload_n 2, 1) := by decide +kernel
theorem dX2_addHost_44 : decode cX2_addHost 44 = .ok (.bastore, 1) := by decide +kernel
theorem dX2_addHost_45 : decode cX2_addHost 45 = .ok (.aload_n 0, 1) := by decide +kernel
theorem dX2_addHost_46 : decode cX2_addHost 46 = .ok (.dup, 1) := by decide +kernel
theorem dX2_addHost_47 : decode cX2_addHost 47 = .ok (.getfield 21, 3) := by decide +kernel
theorem dX2_addHost_50 : decode cX2_addHost 50 = .ok (.iconst 1, 1) := by decide +kernel
theorem dX2_addHost_51 : decode cX2_addHost 51 = .ok (.iadd, 1) := by decide +kernel
theorem dX2_addHost_52 : decode cX2_addHost 52 = .ok (.putfield 21, 3) := by decide +kernel
theorem dX2_addHost_55 : decode cX2_addHost 55 = .ok (.aload_n 0, 1) := by decide +kernel
theorem dX2_addHost_56 : decode cX2_addHost 56 = .ok (.getfield 21, 3) := by decide +kernel
theorem dX2_addHost_59 : decode cX2_addHost 59 = .ok (.ireturn, 1) := by decide +kernel
theorem dX8_list_0 : decode cX8_list 0 = .ok (.aload_n 0, 1) := by decide +kernel
theorem dX8_list_1 : decode cX8_list 1 = .ok (.invokevirtual 121, 3) := by decide +kernel
theorem dX8_list_4 : decode cX8_list 4 = .ok (.istore_n 2, 1) := by decide +kernel
theorem dX8_list_5 : decode cX8_list 5 = .ok (.iload_n 2, 1) := by decide +kernel
theorem dX8_list_6 : decode cX8_list 6 = .ok (.ifCond .eq 5, 3) := by decide +kernel
theorem dX8_list_9 : decode cX8_list 9 = .ok (.iload_n 2, 1) := by decide +kernel
theorem dX8_list_10 : decode cX8_list 10 = .ok (.ireturn, 1) := by decide +kernel
theorem dX8_list_11 : decode cX8_list 11 = .ok (.iload_n 1, 1) := by decide +kernel
theorem dX8_list_12 : decode cX8_list 12 = .ok (.ifCond .eq 16, 3) := by decide +kernel
theorem dX8_list_15 : decode cX8_list 15 = .ok (.aload_n 0, 1) := by decide +kernel
theorem dX8_list_16 : decode cX8_list 16 = .ok (.getfield 28, 3) := by decide +kernel
theorem dX8_list_19 : decode cX8_list 19 = .ok (.invokevirtual 124, 3) := by decide +kernel
theorem dX8_list_22 : decode cX8_list 22 = .ok (.ifCond .ne 6, 3) := by decide +kernel
theorem dX8_list_25 : decode cX8_list 25 = .ok (.bipush (-2), 2) := by decide +kernel
theorem dX8_list_27 : decode cX8_list 27 = .ok (.ireturn, 1) := by decide +kernel
theorem dX8_list_28 : decode cX8_list 28 = .ok (.aload_n 0, 1) := by decide +kernel
theorem dX8_list_29 : decode cX8_list 29 = .ok (.getfield 49, 3) := by decide +kernel
theorem dX8_list_32 : decode cX8_list 32 = .ok (.aload_n 0, 1) := by decide +kernel
theorem dX8_list_33 : decode cX8_list 33 = .ok (.getfield 28, 3) := by decide +kernel
theorem dX8_list_36 : decode cX8_list 36 = .ok (.iload_n 1, 1) := by decide +kernel
theorem dX8_list_37 : decode cX8_list 37 = .ok (.invokevirtual 128, 3) := by decide +kernel
theorem dX8_list_40 : decode cX8_list 40 = .ok (.ireturn, 1) := by decide +kernel
theorem dX2_addAnswer_0 : decode cX2_addAnswer 0 = .ok (.aload_n 0, 1) := by decide +kernel
theorem dX2_addAnswer_1 : decode cX2_addAnswer 1 = .ok (.getfield 37, 3) := by decide +kernel
theorem dX2_addAnswer_4 : decode cX2_addAnswer 4 = .ok (.bipush 16, 2) := by decide +kernel
theorem dX2_addAnswer_6 : decode cX2_addAnswer 6 = .ok (.if_icmp .lt 6, 3) := by decide +kernel
theorem dX2_addAnswer_9 : decode cX2_addAnswer 9 = .ok (.bipush (-3), 2) := by decide +kernel
theorem dX2_addAnswer_11 : decode cX2_addAnswer 11 = .ok (.ireturn, 1) := by decide +kernel
theorem dX2_addAnswer_12 : decode cX2_addAnswer 12 = .ok (.new 25, 3) := by decide +kernel
theorem dX2_addAnswer_15 : decode cX2_addAnswer 15 = .ok (.dup, 1) := by decide +kernel
theorem dX2_addAnswer_16 : decode cX2_addAnswer 16 = .ok (.invokespecial 55, 3) := by decide +kernel
theorem dX2_addAnswer_19 : decode cX2_addAnswer 19 = .ok (.astore 7, 2) := by decide +kernel
theorem dX2_addAnswer_21 : decode cX2_addAnswer 21 = .ok (.aload 7, 2) := by decide +kernel
theorem dX2_addAnswer_23 : decode cX2_addAnswer 23 = .ok (.aload_n 1, 1) := by decide +kernel
theorem dX2_addAnswer_24 : decode cX2_addAnswer 24 = .ok (.invokevirtual 56, 3) := by decide +kernel
theorem dX2_addAnswer_27 : decode cX2_addAnswer 27 = .ok (.aload_n 0, 1) := by decide +kernel
theorem dX2_addAnswer_28 : decode cX2_addAnswer 28 = .ok (.getfield 27, 3) := by decide +kernel
theorem dX2_addAnswer_31 : decode cX2_addAnswer 31 = .ok (.aload_n 0, 1) := by decide +kernel
theorem dX2_addAnswer_32 : decode cX2_addAnswer 32 = .ok (.getfield 37, 3) := by decide +kernel
theorem dX2_addAnswer_35 : decode cX2_addAnswer 35 = .ok (.aload 7, 2) := by decide +kernel
theorem dX2_addAnswer_37 : decode cX2_addAnswer 37 = .ok (.aastore, 1) := by decide +kernel
theorem dX2_addAnswer_38 : decode cX2_addAnswer 38 = .ok (.new 31, 3) := by decide +kernel
theorem dX2_addAnswer_41 : decode cX2_addAnswer 41 = .ok (.dup, 1) := by decide +kernel
theorem dX2_addAnswer_42 : decode cX2_addAnswer 42 = .ok (.invokespecial 59, 3) := by decide +kernel
theorem dX2_addAnswer_45 : decode cX2_addAnswer 45 = .ok (.astore 8, 2) := by decide +kernel
theorem dX2_addAnswer_47 : decode cX2_addAnswer 47 = .ok (.aload 8, 2) := by decide +kernel
theorem dX2_addAnswer_49 : decode cX2_addAnswer 49 = .ok (.iload_n 2, 1) := by decide +kernel
theorem dX2_addAnswer_50 : decode cX2_addAnswer 50 = .ok (.iload_n 3, 1) := by decide +kernel
theorem dX2_addAnswer_51 : decode cX2_addAnswer 51 = .ok (.iload 4, 2) := by decide +kernel
theorem dX2_addAnswer_53 : decode cX2_addAnswer 53 = .ok (.iload 5, 2) := by decide +kernel
theorem dX2_addAnswer_55 : decode cX2_addAnswer 55 = .ok (.iload 6, 2) := by decide +kernel
theorem dX2_addAnswer_57 : decode cX2_addAnswer 57 = .ok (.invokevirtual 60, 3) := by decide +kernel
theorem dX2_addAnswer_60 : decode cX2_addAnswer 60 = .ok (.aload_n 0, 1) := by decide +kernel
theorem dX2_addAnswer_61 : decode cX2_addAnswer 61 = .ok (.getfield 33, 3) := by decide +kernel
theorem dX2_addAnswer_64 : decode cX2_addAnswer 64 = .ok (.aload_n 0, 1) := by decide +kernel
theorem dX2_addAnswer_65 : decode cX2_addAnswer 65 = .ok (.getfield 37, 3) := by decide +kernel
theorem dX2_addAnswer_68 : decode cX2_addAnswer 68 = .ok (.aload 8, 2) := by decide +kernel
theorem dX2_addAnswer_70 : decode cX2_addAnswer 70 = .ok (.aastore, 1) := by decide +kernel
theorem dX2_addAnswer_71 : decode cX2_addAnswer 71 = .ok (.aload_n 0, 1) := by decide +kernel
theorem dX2_addAnswer_72 : decode cX2_addAnswer 72 = .ok (.dup, 1) := by decide +kernel
theorem dX2_addAnswer_73 : decode cX2_addAnswer 73 = .ok (.getfield 37, 3) := by decide +kernel
theorem dX2_addAnswer_76 : decode cX2_addAnswer 76 = .ok (.iconst 1, 1) := by decide +kernel
theorem dX2_addAnswer_77 : decode cX2_addAnswer 77 = .ok (.iadd, 1) := by decide +kernel
theorem dX2_addAnswer_78 : decode cX2_addAnswer 78 = .ok (.putfield 37, 3) := by decide +kernel
theorem dX2_addAnswer_81 : decode cX2_addAnswer 81 = .ok (.aload_n 0, 1) := by decide +kernel
theorem dX2_addAnswer_82 : decode cX2_addAnswer 82 = .ok (.getfield 37, 3) := by decide +kernel
theorem dX2_addAnswer_85 : decode cX2_addAnswer 85 = .ok (.ireturn, 1) := by decide +kernel
def f_X8_read_128  (s0 : Option Nat) (s1 : Option Nat) : gM Int32 := gb (wR 7 7 s0 s1) fun _ => gp 0
def f_X8_read_27  (x0 : Option Nat) (x1 : Int32) (x3 : Option Nat) : gM Int32 := gb (rR 7 5 x0) fun v1 => gb (rR 7 0 x0) fun v2 => gb (rR 7 7 x0) fun v3 => gb (rR 7 4 x0) fun v4 => gb (nn 6 v1) fun _ => gb (f_X7_readUrl v1 v2 x3 v3 v4) fun v5 => gb (rR 7 0 x0) fun v6 => gb (nn 4 v6) fun _ => gb (f_X5_cutTo v6 0) fun _ => if v5 = 0 then (gb (rR 7 7 x0) fun v7 => gb (rR 7 1 x0) fun v8 => gb (nn 5 v7) fun _ => gb (f_X6_writeTo v7 v8) fun _ => gb (rR 7 1 x0) fun v9 => gb (rI 4 1 v9) fun v10 => if v10 ≤ 1000 then (gb (rR 7 2 x0) fun v11 => gb (aR 6 v11 x1) fun v12 => gb (rR 7 2 x0) fun v13 => gb (rR 7 7 x0) fun v14 => gb (sR 6 5 v13 x1 v14) fun _ => if v12 = none then (gb (nO 5) fun v15 => gb (nn 5 v15) fun _ => gb (f_X6_init v15) fun _ => f_X8_read_128  x0 v15) else (f_X8_read_128  x0 v12)) else (gp (-3))) else (gp v5)
def f_X8_read  (a0 : Option Nat) (a1 : Int32) (a2 : Int32) : gM Int32 := gb (nn 7 a0) fun _ => gb (f_X8_recordAt a0 a2) fun v1 => if a1 < 0 then (gp (-2)) else (if 4 ≤ a1 then (gp (-2)) else (if a2 = (-1) then (f_X8_read_27  a0 a1 v1) else (if v1 = none then (gp (-2)) else (f_X8_read_27  a0 a1 v1))))
section S_X8_read
variable {G : gX} {p : Program} {l : Launch} {e : Env} {s : State} {m : MethodId} {args : Array Value} {below : List Frame} {meth : Method} {c : Code} {mc ms : Nat} {y : Int32 × gS}
set_option maxHeartbeats 4000000 in
set_option maxRecDepth 100000 in
theorem w_X8_read_128 (C : gC G p s m args meth c cX8_read 6 RX8) (hr : meth.sig.returnType = (some .int))  (s0 : Option Nat) (s1 : Option Nat) : gJ G p l e 10 238 mc ms s m args below meth c gri y 6 128 [] [va_rf s1, va_rf s0] (f_X8_read_128  s0 s1) := by
  have hx := C.1
  have hb := C.2.1
  intro σ H locs cells slots ls hf I hl
  unfold f_X8_read_128 at hf
  refine gw_putr (k := 7) (ty := .object "UrlGate$Url") C I gcls_7 (by decide) rfl kw_89 (Or.inl rfl) (by decide +kernel) (gty_o _) dX8_read_128 hf (fun σ H locs I hf => ?_)
  refine lv_iconst (v := 0) hx hb dX8_read_131 kc_i_0 ?_
  exact gw_iret C I hr dX8_read_132 hf
set_option maxHeartbeats 4000000 in
set_option maxRecDepth 100000 in
theorem w_X8_read_27 (C : gC G p s m args meth c cX8_read 6 RX8) (hr : meth.sig.returnType = (some .int))  (x0 : Option Nat) (x1 : Int32) (x3 : Option Nat) : gJ G p l e 10 238 mc ms s m args below meth c gri y 6 27 [(0, va_rf x0), (1, .int x1), (3, va_rf x3)] [] (f_X8_read_27  x0 x1 x3) := by
  have hx := C.1
  have hb := C.2.1
  intro σ H locs cells slots ls hf I hl
  unfold f_X8_read_27 at hf
  refine gw_aload_n hx hb dX8_read_27 rfl (lv_at hl 0 rfl) ?_
  refine gw_getr (k := 5) C I gcls_7 (by decide) rfl kw_80 dX8_read_28 hf (fun v1 hf => ?_)
  refine gw_aload_n hx hb dX8_read_31 rfl (lv_at hl 0 rfl) ?_
  refine gw_getr (k := 0) C I gcls_7 (by decide) rfl kw_65 dX8_read_32 hf (fun v2 hf => ?_)
  refine gw_aload_n hx hb dX8_read_35 rfl (lv_at hl 2 rfl) ?_
  refine gw_aload_n hx hb dX8_read_36 rfl (lv_at hl 0 rfl) ?_
  refine gw_getr (k := 7) C I gcls_7 (by decide) rfl kw_89 dX8_read_37 hf (fun v3 hf => ?_)
  refine gw_aload_n hx hb dX8_read_40 rfl (lv_at hl 0 rfl) ?_
  refine gw_getr (k := 4) C I gcls_7 (by decide) rfl kw_75 dX8_read_41 hf (fun v4 hf => ?_)
  refine gw_callV (rest := []) C I hl.1 gcls_6 (m_X7_readUrl G l v1 v2 x3 v3 v4) gl_RX8_73 gn_X7_readUrl ⟨Nat.le_of_ble_eq_true rfl, Nat.le_of_ble_eq_true rfl⟩ rfl (gc4 (Nat.le_of_ble_eq_true rfl)) rfl dX8_read_44 hf (fun v5 σ H locs cells slots I hf => ?_)
  refine W.eq (g2 := F0 m 47 ls [.int v5]) rfl ?_
  refine lv_istore (lv' := [(4, .int v5), (0, va_rf x0), (1, .int x1), (3, va_rf x3)]) hx hb dX8_read_47 hl (by decide) (by cases x3 <;> rfl) (fun ls hl => ?_)
  refine gw_aload_n hx hb dX8_read_49 rfl (lv_at hl 1 rfl) ?_
  refine gw_getr (k := 0) C I gcls_7 (by decide) rfl kw_65 dX8_read_50 hf (fun v6 hf => ?_)
  refine lv_iconst (v := 0) hx hb dX8_read_53 kc_i_0 ?_
  refine gw_callV (rest := []) C I hl.1 gcls_4 (m_X5_cutTo G l v6 0) gl_RX8_66 gn_X5_cutTo ⟨Nat.le_of_ble_eq_true rfl, Nat.le_of_ble_eq_true rfl⟩ rfl (gc4 (Nat.le_of_ble_eq_true rfl)) rfl dX8_read_54 hf (fun _ σ H locs cells slots I hf => ?_)
  refine W.eq (g2 := F0 m 57 ls []) rfl ?_
  refine lv_iload hx hb dX8_read_57 (lv_at hl 0 rfl) ?_
  refine lv_if_eq (tgt := 65) hx hb dX8_read_59 (by decide) (fun hq => ?_) (fun hq => ?_)
  · have hf := gift hq hf
    refine gw_aload_n hx hb dX8_read_65 rfl (lv_at hl 1 rfl) ?_
    refine gw_getr (k := 7) C I gcls_7 (by decide) rfl kw_89 dX8_read_66 hf (fun v7 hf => ?_)
    refine gw_aload_n hx hb dX8_read_69 rfl (lv_at hl 1 rfl) ?_
    refine gw_getr (k := 1) C I gcls_7 (by decide) rfl kw_66 dX8_read_70 hf (fun v8 hf => ?_)
    refine gw_callV (rest := []) C I hl.1 gcls_5 (m_X6_writeTo G l v7 v8) gl_RX8_77 gn_X6_writeTo ⟨Nat.le_of_ble_eq_true rfl, Nat.le_of_ble_eq_true rfl⟩ rfl (gc4 (Nat.le_of_ble_eq_true rfl)) rfl dX8_read_73 hf (fun _ σ H locs cells slots I hf => ?_)
    refine W.eq (g2 := F0 m 76 ls []) rfl ?_
    refine gw_aload_n hx hb dX8_read_76 rfl (lv_at hl 1 rfl) ?_
    refine gw_getr (k := 1) C I gcls_7 (by decide) rfl kw_66 dX8_read_77 hf (fun v9 hf => ?_)
    refine gw_geti (k := 1) C I gcls_4 (by decide) rfl kw_99 dX8_read_80 hf (fun v10 hf => ?_)
    refine lv_sipush (v := 1000) hx hb dX8_read_83 kc_s_1000 ?_
    refine lv_icmp_le (tgt := 92) hx hb dX8_read_86 (by decide) (fun hq => ?_) (fun hq => ?_)
    · have hf := gift hq hf
      refine gw_aload_n hx hb dX8_read_92 rfl (lv_at hl 1 rfl) ?_
      refine gw_getr (k := 2) C I gcls_7 (by decide) rfl kw_68 dX8_read_93 hf (fun v11 hf => ?_)
      refine lv_iload_n hx hb dX8_read_96 rfl (lv_at hl 2 rfl) ?_
      refine gw_aald (t := 6) C I (by decide) rfl dX8_read_97 hf (fun v12 hf => ?_)
      refine gw_astore (lv' := [(5, va_rf v12), (4, .int v5), (0, va_rf x0), (1, .int x1), (3, va_rf x3)]) hx hb dX8_read_98 hl (by decide) rfl (fun ls hl => ?_)
      refine gw_aload_n hx hb dX8_read_100 rfl (lv_at hl 2 rfl) ?_
      refine gw_getr (k := 2) C I gcls_7 (by decide) rfl kw_68 dX8_read_101 hf (fun v13 hf => ?_)
      refine lv_iload_n hx hb dX8_read_104 rfl (lv_at hl 3 rfl) ?_
      refine gw_aload_n hx hb dX8_read_105 rfl (lv_at hl 2 rfl) ?_
      refine gw_getr (k := 7) C I gcls_7 (by decide) rfl kw_89 dX8_read_106 hf (fun v14 hf => ?_)
      refine gw_aast (t := 6) C I gcls_5 (by decide) rfl dX8_read_109 hf (fun σ H locs I hf => ?_)
      refine gw_aload_n hx hb dX8_read_110 rfl (lv_at hl 2 rfl) ?_
      refine gw_aload hx hb dX8_read_111 (lv_at hl 0 rfl) ?_
      refine gw_ifnonnull (tgt := 126) hx hb dX8_read_113 (by decide) (fun hq => ?_) (fun hq => ?_)
      · have hf := giff hq hf
        refine gw_aload hx hb dX8_read_126 (lv_at hl 0 rfl) ?_
        exact w_X8_read_128 C hr  x0 v12 _ _ _ _ _ _ hf I (lv_sub hl [] rfl)
      · have hf := gift hq hf
        refine gw_new C I gcls_5 gdf_5 kw_67 dX8_read_116 hf (fun v15 σ H locs cells slots I hf => ?_)
        refine lv_dup hx hb dX8_read_119 (grc _) ?_
        refine gw_callN (rest := [va_rf v15, va_rf x0]) (ci := 5) C I hl.1 (m_X6_init G l v15) (host := "UrlGate") (by decide) ⟨kw_86, kw_87⟩ ⟨by decide, by decide, rfl⟩ ⟨rfl, kw_88⟩ ⟨Nat.le_of_ble_eq_true rfl, Nat.le_of_ble_eq_true rfl⟩ rfl (gc4 (Nat.le_of_ble_eq_true rfl)) rfl dX8_read_120 hf (fun _ σ H locs cells slots I hf => ?_)
        refine W.eq (g2 := F0 m 123 ls [va_rf v15, va_rf x0]) rfl ?_
        refine lv_goto (tgt := 128) hx hb dX8_read_123 (by decide) ?_
        exact w_X8_read_128 C hr  x0 v15 _ _ _ _ _ _ hf I (lv_sub hl [] rfl)
    · have hf := giff hq hf
      refine lv_bipush (v := (-3)) hx hb dX8_read_89 kc_b_m3 ?_
      exact gw_iret C I hr dX8_read_91 hf
  · have hf := giff hq hf
    refine lv_iload hx hb dX8_read_62 (lv_at hl 0 rfl) ?_
    exact gw_iret C I hr dX8_read_64 hf
set_option maxHeartbeats 4000000 in
set_option maxRecDepth 100000 in
theorem w_X8_read_0 (C : gC G p s m args meth c cX8_read 6 RX8) (hr : meth.sig.returnType = (some .int))  (a0 : Option Nat) (a1 : Int32) (a2 : Int32) : gJ G p l e 10 238 mc ms s m args below meth c gri y 6 0 [(0, va_rf a0), (1, .int a1), (2, .int a2)] [] (f_X8_read  a0 a1 a2) := by
  have hx := C.1
  have hb := C.2.1
  intro σ H locs cells slots ls hf I hl
  unfold f_X8_read at hf
  refine gw_aload_n hx hb dX8_read_0 rfl (lv_at hl 0 rfl) ?_
  refine lv_iload_n hx hb dX8_read_1 rfl (lv_at hl 2 rfl) ?_
  refine gw_callV (rest := []) C I hl.1 gcls_7 (m_X8_recordAt G l a0 a2) gl_RX8_69 gn_X8_recordAt ⟨Nat.le_of_ble_eq_true rfl, Nat.le_of_ble_eq_true rfl⟩ rfl (gc4 (Nat.le_of_ble_eq_true rfl)) rfl dX8_read_2 hf (fun v1 σ H locs cells slots I hf => ?_)
  refine W.eq (g2 := F0 m 5 ls [va_rf v1]) rfl ?_
  refine gw_astore_n (lv' := [(3, va_rf v1), (0, va_rf a0), (1, .int a1), (2, .int a2)]) hx hb dX8_read_5 rfl hl (by decide) rfl (fun ls hl => ?_)
  refine lv_iload_n hx hb dX8_read_6 rfl (lv_at hl 2 rfl) ?_
  refine lv_if_lt (tgt := 24) hx hb dX8_read_7 (by decide) (fun hq => ?_) (fun hq => ?_)
  · have hf := gift hq hf
    refine lv_bipush (v := (-2)) hx hb dX8_read_24 kc_b_m2 ?_
    exact gw_iret C I hr dX8_read_26 hf
  · have hf := giff hq hf
    refine lv_iload_n hx hb dX8_read_10 rfl (lv_at hl 2 rfl) ?_
    refine lv_iconst (v := 4) hx hb dX8_read_11 kc_i_4 ?_
    refine lv_icmp_ge (tgt := 24) hx hb dX8_read_12 (by decide) (fun hq => ?_) (fun hq => ?_)
    · have hf := gift hq hf
      refine lv_bipush (v := (-2)) hx hb dX8_read_24 kc_b_m2 ?_
      exact gw_iret C I hr dX8_read_26 hf
    · have hf := giff hq hf
      refine lv_iload_n hx hb dX8_read_15 rfl (lv_at hl 3 rfl) ?_
      refine lv_iconst (v := (-1)) hx hb dX8_read_16 kc_i_m1 ?_
      refine lv_icmp_eq (tgt := 27) hx hb dX8_read_17 (by decide) (fun hq => ?_) (fun hq => ?_)
      · have hf := gift hq hf
        exact w_X8_read_27 C hr  a0 a1 v1 _ _ _ _ _ _ hf I (lv_sub hl [1, 2, 0] rfl)
      · have hf := giff hq hf
        refine gw_aload_n hx hb dX8_read_20 rfl (lv_at hl 0 rfl) ?_
        refine gw_ifnonnull (tgt := 27) hx hb dX8_read_21 (by decide) (fun hq => ?_) (fun hq => ?_)
        · have hf := giff hq hf
          exact w_X8_read_27 C hr  a0 a1 v1 _ _ _ _ _ _ hf I (lv_sub hl [1, 2, 0] rfl)
        · have hf := gift hq hf
          refine lv_bipush (v := (-2)) hx hb dX8_read_24 kc_b_m2 ?_
          exact gw_iret C I hr dX8_read_26 hf
end S_X8_read
theorem m_X8_read (G : gX) (l : Launch) (a0 : Option Nat) (a1 : Int32) (a2 : Int32) : gMet G l yX8_read cX8_read 6 (some .int) 10 238 [va_rf a0, .int a1, .int a2] gri (f_X8_read a0 a1 a2) := by
  refine gMet_of (by decide) ?_
  intro σ y p e s m below meth c mc ms hf C hr hnm I
  obtain ⟨ls, e1, hl⟩ := gentry m [va_rf a0, .int a1, .int a2] 6 [(0, va_rf a0), (1, .int a1), (2, .int a2)] (by simp [lg_sl, grc, gcat_i, gcat_l]) (by simp [lv_args, grc, gcat_i, gcat_l])
  rw [e1]
  exact w_X8_read_0 C hr a0 a1 a2 _ _ _ _ _ _ hf I hl
def f_X8_write  (a0 : Option Nat) (a1 : Int32) : gM Int32 := gb (nn 7 a0) fun _ => gb (f_X8_recordAt a0 a1) fun v1 => if v1 = none then (gp (-2)) else (gb (rR 7 1 a0) fun v2 => gb (nn 5 v1) fun _ => gb (f_X6_writeTo v1 v2) fun _ => gb (rR 7 1 a0) fun v3 => gb (rI 4 1 v3) fun v4 => if v4 ≤ 300 then (gb (rR 7 0 a0) fun v5 => gb (rR 7 1 a0) fun v6 => gb (nn 4 v5) fun _ => gb (f_X5_take v5 v6) fun _ => gb (rR 7 0 a0) fun v7 => gb (rI 4 1 v7) fun v8 => gp v8) else (gp (-3)))
section S_X8_write
variable {G : gX} {p : Program} {l : Launch} {e : Env} {s : State} {m : MethodId} {args : Array Value} {below : List Frame} {meth : Method} {c : Code} {mc ms : Nat} {y : Int32 × gS}
set_option maxHeartbeats 4000000 in
set_option maxRecDepth 100000 in
theorem w_X8_write_0 (C : gC G p s m args meth c cX8_write 3 RX8) (hr : meth.sig.returnType = (some .int))  (a0 : Option Nat) (a1 : Int32) : gJ G p l e 6 128 mc ms s m args below meth c gri y 3 0 [(0, va_rf a0), (1, .int a1)] [] (f_X8_write  a0 a1) := by
  have hx := C.1
  have hb := C.2.1
  intro σ H locs cells slots ls hf I hl
  unfold f_X8_write at hf
  refine gw_aload_n hx hb dX8_write_0 rfl (lv_at hl 0 rfl) ?_
  refine lv_iload_n hx hb dX8_write_1 rfl (lv_at hl 1 rfl) ?_
  refine gw_callV (rest := []) C I hl.1 gcls_7 (m_X8_recordAt G l a0 a1) gl_RX8_69 gn_X8_recordAt ⟨Nat.le_of_ble_eq_true rfl, Nat.le_of_ble_eq_true rfl⟩ rfl (gc4 (Nat.le_of_ble_eq_true rfl)) rfl dX8_write_2 hf (fun v1 σ H locs cells slots I hf => ?_)
  refine W.eq (g2 := F0 m 5 ls [va_rf v1]) rfl ?_
  refine gw_astore_n (lv' := [(2, va_rf v1), (0, va_rf a0), (1, .int a1)]) hx hb dX8_write_5 rfl hl (by decide) rfl (fun ls hl => ?_)
  refine gw_aload_n hx hb dX8_write_6 rfl (lv_at hl 0 rfl) ?_
  refine gw_ifnonnull (tgt := 13) hx hb dX8_write_7 (by decide) (fun hq => ?_) (fun hq => ?_)
  · have hf := giff hq hf
    refine gw_aload_n hx hb dX8_write_13 rfl (lv_at hl 0 rfl) ?_
    refine gw_aload_n hx hb dX8_write_14 rfl (lv_at hl 1 rfl) ?_
    refine gw_getr (k := 1) C I gcls_7 (by decide) rfl kw_66 dX8_write_15 hf (fun v2 hf => ?_)
    refine gw_callV (rest := []) C I hl.1 gcls_5 (m_X6_writeTo G l v1 v2) gl_RX8_77 gn_X6_writeTo ⟨Nat.le_of_ble_eq_true rfl, Nat.le_of_ble_eq_true rfl⟩ rfl (gc4 (Nat.le_of_ble_eq_true rfl)) rfl dX8_write_18 hf (fun _ σ H locs cells slots I hf => ?_)
    refine W.eq (g2 := F0 m 21 ls []) rfl ?_
    refine gw_aload_n hx hb dX8_write_21 rfl (lv_at hl 1 rfl) ?_
    refine gw_getr (k := 1) C I gcls_7 (by decide) rfl kw_66 dX8_write_22 hf (fun v3 hf => ?_)
    refine gw_geti (k := 1) C I gcls_4 (by decide) rfl kw_99 dX8_write_25 hf (fun v4 hf => ?_)
    refine lv_sipush (v := 300) hx hb dX8_write_28 kc_s_300 ?_
    refine lv_icmp_le (tgt := 37) hx hb dX8_write_31 (by decide) (fun hq => ?_) (fun hq => ?_)
    · have hf := gift hq hf
      refine gw_aload_n hx hb dX8_write_37 rfl (lv_at hl 1 rfl) ?_
      refine gw_getr (k := 0) C I gcls_7 (by decide) rfl kw_65 dX8_write_38 hf (fun v5 hf => ?_)
      refine gw_aload_n hx hb dX8_write_41 rfl (lv_at hl 1 rfl) ?_
      refine gw_getr (k := 1) C I gcls_7 (by decide) rfl kw_66 dX8_write_42 hf (fun v6 hf => ?_)
      refine gw_callV (rest := []) C I hl.1 gcls_4 (m_X5_take G l v5 v6) gl_RX8_81 gn_X5_take ⟨Nat.le_of_ble_eq_true rfl, Nat.le_of_ble_eq_true rfl⟩ rfl (gc4 (Nat.le_of_ble_eq_true rfl)) rfl dX8_write_45 hf (fun _ σ H locs cells slots I hf => ?_)
      refine W.eq (g2 := F0 m 48 ls []) rfl ?_
      refine gw_aload_n hx hb dX8_write_48 rfl (lv_at hl 1 rfl) ?_
      refine gw_getr (k := 0) C I gcls_7 (by decide) rfl kw_65 dX8_write_49 hf (fun v7 hf => ?_)
      refine gw_geti (k := 1) C I gcls_4 (by decide) rfl kw_99 dX8_write_52 hf (fun v8 hf => ?_)
      exact gw_iret C I hr dX8_write_55 hf
    · have hf := giff hq hf
      refine lv_bipush (v := (-3)) hx hb dX8_write_34 kc_b_m3 ?_
      exact gw_iret C I hr dX8_write_36 hf
  · have hf := gift hq hf
    refine lv_bipush (v := (-2)) hx hb dX8_write_10 kc_b_m2 ?_
    exact gw_iret C I hr dX8_write_12 hf
end S_X8_write
theorem m_X8_write (G : gX) (l : Launch) (a0 : Option Nat) (a1 : Int32) : gMet G l yX8_write cX8_write 3 (some .int) 6 128 [va_rf a0, .int a1] gri (f_X8_write a0 a1) := by
  refine gMet_of (by decide) ?_
  intro σ y p e s m below meth c mc ms hf C hr hnm I
  obtain ⟨ls, e1, hl⟩ := gentry m [va_rf a0, .int a1] 3 [(0, va_rf a0), (1, .int a1)] (by simp [lg_sl, grc, gcat_i, gcat_l]) (by simp [lv_args, grc, gcat_i, gcat_l])
  rw [e1]
  exact w_X8_write_0 C hr a0 a1 _ _ _ _ _ _ hf I hl
def f_X8_at  (a0 : Option Nat) (a1 : Int32) : gM Int32 := gb (rR 7 0 a0) fun v1 => gb (nn 4 v1) fun _ => gb (f_X5_byteAt v1 a1) fun v2 => gp v2
section S_X8_at
variable {G : gX} {p : Program} {l : Launch} {e : Env} {s : State} {m : MethodId} {args : Array Value} {below : List Frame} {meth : Method} {c : Code} {mc ms : Nat} {y : Int32 × gS}
set_option maxHeartbeats 4000000 in
set_option maxRecDepth 100000 in
theorem w_X8_at_0 (C : gC G p s m args meth c cX8_at 2 RX8) (hr : meth.sig.returnType = (some .int))  (a0 : Option Nat) (a1 : Int32) : gJ G p l e 1 21 mc ms s m args below meth c gri y 2 0 [(0, va_rf a0), (1, .int a1)] [] (f_X8_at  a0 a1) := by
  have hx := C.1
  have hb := C.2.1
  intro σ H locs cells slots ls hf I hl
  unfold f_X8_at at hf
  refine gw_aload_n hx hb dX8_at_0 rfl (lv_at hl 0 rfl) ?_
  refine gw_getr (k := 0) C I gcls_7 (by decide) rfl kw_65 dX8_at_1 hf (fun v1 hf => ?_)
  refine lv_iload_n hx hb dX8_at_4 rfl (lv_at hl 1 rfl) ?_
  refine gw_callV (rest := []) C I hl.1 gcls_4 (m_X5_byteAt G l v1 a1) gl_RX8_84 gn_X5_byteAt ⟨Nat.le_of_ble_eq_true rfl, Nat.le_of_ble_eq_true rfl⟩ rfl (gc4 (Nat.le_of_ble_eq_true rfl)) rfl dX8_at_5 hf (fun v2 σ H locs cells slots I hf => ?_)
  refine W.eq (g2 := F0 m 8 ls [.int v2]) rfl ?_
  exact gw_iret C I hr dX8_at_8 hf
end S_X8_at
theorem m_X8_at (G : gX) (l : Launch) (a0 : Option Nat) (a1 : Int32) : gMet G l yX8_at cX8_at 2 (some .int) 1 21 [va_rf a0, .int a1] gri (f_X8_at a0 a1) := by
  refine gMet_of (by decide) ?_
  intro σ y p e s m below meth c mc ms hf C hr hnm I
  obtain ⟨ls, e1, hl⟩ := gentry m [va_rf a0, .int a1] 2 [(0, va_rf a0), (1, .int a1)] (by simp [lg_sl, grc, gcat_i, gcat_l]) (by simp [lv_args, grc, gcat_i, gcat_l])
  rw [e1]
  exact w_X8_at_0 C hr a0 a1 _ _ _ _ _ _ hf I hl
def f_X6_rowOf  (a0 : Option Nat) (a1 : Int32) : gM (Option Nat) := if a1 = 0 then (gb (rR 5 1 a0) fun v1 => gp v1) else if a1 = 1 then (gb (rR 5 2 a0) fun v2 => gp v2) else if a1 = 2 then (gb (rR 5 3 a0) fun v3 => gp v3) else if a1 = 3 then (gb (rR 5 4 a0) fun v4 => gb (rR 2 1 v4) fun v5 => gp v5) else if a1 = 4 then (gb (rR 5 6 a0) fun v6 => gp v6) else if a1 = 5 then (gb (rI 5 9 a0) fun v7 => if v7 = 0 then (gp none) else (gb (rR 5 8 a0) fun v8 => gp v8)) else if a1 = 6 then (gb (rI 5 11 a0) fun v9 => if v9 = 0 then (gp none) else (gb (rR 5 10 a0) fun v10 => gp v10)) else (gp none)
section S_X6_rowOf
variable {G : gX} {p : Program} {l : Launch} {e : Env} {s : State} {m : MethodId} {args : Array Value} {below : List Frame} {meth : Method} {c : Code} {mc ms : Nat} {y : (Option Nat) × gS}
set_option maxHeartbeats 4000000 in
set_option maxRecDepth 100000 in
theorem w_X6_rowOf_0 (C : gC G p s m args meth c cX6_rowOf 2 RX6) (hr : meth.sig.returnType = (some (.object "UrlGate$Row")))  (a0 : Option Nat) (a1 : Int32) : gJ G p l e 0 0 mc ms s m args below meth c grq y 2 0 [(0, va_rf a0), (1, .int a1)] [] (f_X6_rowOf  a0 a1) := by
  have hx := C.1
  have hb := C.2.1
  intro σ H locs cells slots ls hf I hl
  unfold f_X6_rowOf at hf
  refine lv_iload_n hx hb dX6_rowOf_0 rfl (lv_at hl 1 rfl) ?_
  by_cases hq0 : a1 = 0
  · have hf := gift hq0 hf
    refine gw_sw (tgt := 44) hx hb dX6_rowOf_1 hq0 (by decide) (by decide) rfl (by decide) ?_
    refine gw_aload_n hx hb dX6_rowOf_44 rfl (lv_at hl 0 rfl) ?_
    refine gw_getr (k := 1) C I gcls_5 (by decide) rfl kw_48 dX6_rowOf_45 hf (fun v1 hf => ?_)
    exact gw_aret C I hr (Or.inl ⟨_, rfl⟩) dX6_rowOf_48 hf
  have hf := giff hq0 hf
  by_cases hq1 : a1 = 1
  · have hf := gift hq1 hf
    refine gw_sw (tgt := 49) hx hb dX6_rowOf_1 hq1 (by decide) (by decide) rfl (by decide) ?_
    refine gw_aload_n hx hb dX6_rowOf_49 rfl (lv_at hl 0 rfl) ?_
    refine gw_getr (k := 2) C I gcls_5 (by decide) rfl kw_49 dX6_rowOf_50 hf (fun v2 hf => ?_)
    exact gw_aret C I hr (Or.inl ⟨_, rfl⟩) dX6_rowOf_53 hf
  have hf := giff hq1 hf
  by_cases hq2 : a1 = 2
  · have hf := gift hq2 hf
    refine gw_sw (tgt := 54) hx hb dX6_rowOf_1 hq2 (by decide) (by decide) rfl (by decide) ?_
    refine gw_aload_n hx hb dX6_rowOf_54 rfl (lv_at hl 0 rfl) ?_
    refine gw_getr (k := 3) C I gcls_5 (by decide) rfl kw_50 dX6_rowOf_55 hf (fun v3 hf => ?_)
    exact gw_aret C I hr (Or.inl ⟨_, rfl⟩) dX6_rowOf_58 hf
  have hf := giff hq2 hf
  by_cases hq3 : a1 = 3
  · have hf := gift hq3 hf
    refine gw_sw (tgt := 59) hx hb dX6_rowOf_1 hq3 (by decide) (by decide) rfl (by decide) ?_
    refine gw_aload_n hx hb dX6_rowOf_59 rfl (lv_at hl 0 rfl) ?_
    refine gw_getr (k := 4) C I gcls_5 (by decide) rfl kw_55 dX6_rowOf_60 hf (fun v4 hf => ?_)
    refine gw_getr (k := 1) C I gcls_2 (by decide) rfl kw_148 dX6_rowOf_63 hf (fun v5 hf => ?_)
    exact gw_aret C I hr (Or.inl ⟨_, rfl⟩) dX6_rowOf_66 hf
  have hf := giff hq3 hf
  by_cases hq4 : a1 = 4
  · have hf := gift hq4 hf
    refine gw_sw (tgt := 67) hx hb dX6_rowOf_1 hq4 (by decide) (by decide) rfl (by decide) ?_
    refine gw_aload_n hx hb dX6_rowOf_67 rfl (lv_at hl 0 rfl) ?_
    refine gw_getr (k := 6) C I gcls_5 (by decide) rfl kw_57 dX6_rowOf_68 hf (fun v6 hf => ?_)
    exact gw_aret C I hr (Or.inl ⟨_, rfl⟩) dX6_rowOf_71 hf
  have hf := giff hq4 hf
  by_cases hq5 : a1 = 5
  · have hf := gift hq5 hf
    refine gw_sw (tgt := 72) hx hb dX6_rowOf_1 hq5 (by decide) (by decide) rfl (by decide) ?_
    refine gw_aload_n hx hb dX6_rowOf_72 rfl (lv_at hl 0 rfl) ?_
    refine gw_geti (k := 9) C I gcls_5 (by decide) rfl kw_60 dX6_rowOf_73 hf (fun v7 hf => ?_)
    refine lv_if_eq (tgt := 86) hx hb dX6_rowOf_76 (by decide) (fun hq => ?_) (fun hq => ?_)
    · have hf := gift hq hf
      refine gw_null hx hb dX6_rowOf_86 ?_
      exact gw_aret C I hr (Or.inl ⟨_, rfl⟩) dX6_rowOf_87 hf
    · have hf := giff hq hf
      refine gw_aload_n hx hb dX6_rowOf_79 rfl (lv_at hl 0 rfl) ?_
      refine gw_getr (k := 8) C I gcls_5 (by decide) rfl kw_59 dX6_rowOf_80 hf (fun v8 hf => ?_)
      refine lv_goto (tgt := 87) hx hb dX6_rowOf_83 (by decide) ?_
      exact gw_aret C I hr (Or.inl ⟨_, rfl⟩) dX6_rowOf_87 hf
  have hf := giff hq5 hf
  by_cases hq6 : a1 = 6
  · have hf := gift hq6 hf
    refine gw_sw (tgt := 88) hx hb dX6_rowOf_1 hq6 (by decide) (by decide) rfl (by decide) ?_
    refine gw_aload_n hx hb dX6_rowOf_88 rfl (lv_at hl 0 rfl) ?_
    refine gw_geti (k := 11) C I gcls_5 (by decide) rfl kw_62 dX6_rowOf_89 hf (fun v9 hf => ?_)
    refine lv_if_eq (tgt := 102) hx hb dX6_rowOf_92 (by decide) (fun hq => ?_) (fun hq => ?_)
    · have hf := gift hq hf
      refine gw_null hx hb dX6_rowOf_102 ?_
      exact gw_aret C I hr (Or.inl ⟨_, rfl⟩) dX6_rowOf_103 hf
    · have hf := giff hq hf
      refine gw_aload_n hx hb dX6_rowOf_95 rfl (lv_at hl 0 rfl) ?_
      refine gw_getr (k := 10) C I gcls_5 (by decide) rfl kw_61 dX6_rowOf_96 hf (fun v10 hf => ?_)
      refine lv_goto (tgt := 103) hx hb dX6_rowOf_99 (by decide) ?_
      exact gw_aret C I hr (Or.inl ⟨_, rfl⟩) dX6_rowOf_103 hf
  have hf := giff hq6 hf
  refine lv_tableOut (tgt := 104) hx hb dX6_rowOf_1 (by have := lv_neT hq0 (a := 0) (by decide); have := lv_neT hq1 (a := 1) (by decide); have := lv_neT hq2 (a := 2) (by decide); have := lv_neT hq3 (a := 3) (by decide); have := lv_neT hq4 (a := 4) (by decide); have := lv_neT hq5 (a := 5) (by decide); have := lv_neT hq6 (a := 6) (by decide); omega) (by decide) ?_
  refine gw_null hx hb dX6_rowOf_104 ?_
  exact gw_aret C I hr (Or.inl ⟨_, rfl⟩) dX6_rowOf_105 hf
end S_X6_rowOf
theorem m_X6_rowOf (G : gX) (l : Launch) (a0 : Option Nat) (a1 : Int32) : gMet G l yX6_rowOf cX6_rowOf 2 (some (.object "UrlGate$Row")) 0 0 [va_rf a0, .int a1] grq (f_X6_rowOf a0 a1) := by
  refine gMet_of (by decide) ?_
  intro σ y p e s m below meth c mc ms hf C hr hnm I
  obtain ⟨ls, e1, hl⟩ := gentry m [va_rf a0, .int a1] 2 [(0, va_rf a0), (1, .int a1)] (by simp [lg_sl, grc, gcat_i, gcat_l]) (by simp [lv_args, grc, gcat_i, gcat_l])
  rw [e1]
  exact w_X6_rowOf_0 C hr a0 a1 _ _ _ _ _ _ hf I hl
def f_X8_size  (a0 : Option Nat) (a1 : Int32) (a2 : Int32) : gM Int32 := gb (nn 7 a0) fun _ => gb (f_X8_recordAt a0 a1) fun v1 => if v1 = none then (gp (-2)) else (if a2 < 0 then (gp (-2)) else (if a2 < 7 then (gb (nn 5 v1) fun _ => gb (f_X6_rowOf v1 a2) fun v2 => if v2 = none then (gp (-1)) else (gb (rI 4 1 v2) fun v3 => gp v3)) else (gp (-2))))
section S_X8_size
variable {G : gX} {p : Program} {l : Launch} {e : Env} {s : State} {m : MethodId} {args : Array Value} {below : List Frame} {meth : Method} {c : Code} {mc ms : Nat} {y : Int32 × gS}
set_option maxHeartbeats 4000000 in
set_option maxRecDepth 100000 in
theorem w_X8_size_0 (C : gC G p s m args meth c cX8_size 5 RX8) (hr : meth.sig.returnType = (some .int))  (a0 : Option Nat) (a1 : Int32) (a2 : Int32) : gJ G p l e 1 21 mc ms s m args below meth c gri y 5 0 [(0, va_rf a0), (1, .int a1), (2, .int a2)] [] (f_X8_size  a0 a1 a2) := by
  have hx := C.1
  have hb := C.2.1
  intro σ H locs cells slots ls hf I hl
  unfold f_X8_size at hf
  refine gw_aload_n hx hb dX8_size_0 rfl (lv_at hl 0 rfl) ?_
  refine lv_iload_n hx hb dX8_size_1 rfl (lv_at hl 1 rfl) ?_
  refine gw_callV (rest := []) C I hl.1 gcls_7 (m_X8_recordAt G l a0 a1) gl_RX8_69 gn_X8_recordAt ⟨Nat.le_of_ble_eq_true rfl, Nat.le_of_ble_eq_true rfl⟩ rfl (gc4 (Nat.le_of_ble_eq_true rfl)) rfl dX8_size_2 hf (fun v1 σ H locs cells slots I hf => ?_)
  refine W.eq (g2 := F0 m 5 ls [va_rf v1]) rfl ?_
  refine gw_astore_n (lv' := [(3, va_rf v1), (0, va_rf a0), (1, .int a1), (2, .int a2)]) hx hb dX8_size_5 rfl hl (by decide) rfl (fun ls hl => ?_)
  refine gw_aload_n hx hb dX8_size_6 rfl (lv_at hl 0 rfl) ?_
  refine gw_ifnull (tgt := 20) hx hb dX8_size_7 (by decide) (fun hq => ?_) (fun hq => ?_)
  · have hf := gift hq hf
    refine lv_bipush (v := (-2)) hx hb dX8_size_20 kc_b_m2 ?_
    exact gw_iret C I hr dX8_size_22 hf
  · have hf := giff hq hf
    refine lv_iload_n hx hb dX8_size_10 rfl (lv_at hl 3 rfl) ?_
    refine lv_if_lt (tgt := 20) hx hb dX8_size_11 (by decide) (fun hq => ?_) (fun hq => ?_)
    · have hf := gift hq hf
      refine lv_bipush (v := (-2)) hx hb dX8_size_20 kc_b_m2 ?_
      exact gw_iret C I hr dX8_size_22 hf
    · have hf := giff hq hf
      refine lv_iload_n hx hb dX8_size_14 rfl (lv_at hl 3 rfl) ?_
      refine lv_bipush (v := 7) hx hb dX8_size_15 kc_b_7 ?_
      refine lv_icmp_lt (tgt := 23) hx hb dX8_size_17 (by decide) (fun hq => ?_) (fun hq => ?_)
      · have hf := gift hq hf
        refine gw_aload_n hx hb dX8_size_23 rfl (lv_at hl 0 rfl) ?_
        refine lv_iload_n hx hb dX8_size_24 rfl (lv_at hl 3 rfl) ?_
        refine gw_callV (rest := []) C I hl.1 gcls_5 (m_X6_rowOf G l v1 a2) gl_RX8_88 gn_X6_rowOf ⟨Nat.le_of_ble_eq_true rfl, Nat.le_of_ble_eq_true rfl⟩ rfl (gc4 (Nat.le_of_ble_eq_true rfl)) rfl dX8_size_25 hf (fun v2 σ H locs cells slots I hf => ?_)
        refine W.eq (g2 := F0 m 28 ls [va_rf v2]) rfl ?_
        refine gw_astore (lv' := [(4, va_rf v2), (3, va_rf v1), (0, va_rf a0), (1, .int a1), (2, .int a2)]) hx hb dX8_size_28 hl (by decide) (by cases v1 <;> rfl) (fun ls hl => ?_)
        refine gw_aload hx hb dX8_size_30 (lv_at hl 0 rfl) ?_
        refine gw_ifnonnull (tgt := 39) hx hb dX8_size_32 (by decide) (fun hq => ?_) (fun hq => ?_)
        · have hf := giff hq hf
          refine gw_aload hx hb dX8_size_39 (lv_at hl 0 rfl) ?_
          refine gw_geti (k := 1) C I gcls_4 (by decide) rfl kw_99 dX8_size_41 hf (fun v3 hf => ?_)
          exact gw_iret C I hr dX8_size_44 hf
        · have hf := gift hq hf
          refine lv_iconst (v := (-1)) hx hb dX8_size_35 kc_i_m1 ?_
          refine lv_goto (tgt := 44) hx hb dX8_size_36 (by decide) ?_
          exact gw_iret C I hr dX8_size_44 hf
      · have hf := giff hq hf
        refine lv_bipush (v := (-2)) hx hb dX8_size_20 kc_b_m2 ?_
        exact gw_iret C I hr dX8_size_22 hf
end S_X8_size
theorem m_X8_size (G : gX) (l : Launch) (a0 : Option Nat) (a1 : Int32) (a2 : Int32) : gMet G l yX8_size cX8_size 5 (some .int) 1 21 [va_rf a0, .int a1, .int a2] gri (f_X8_size a0 a1 a2) := by
  refine gMet_of (by decide) ?_
  intro σ y p e s m below meth c mc ms hf C hr hnm I
  obtain ⟨ls, e1, hl⟩ := gentry m [va_rf a0, .int a1, .int a2] 5 [(0, va_rf a0), (1, .int a1), (2, .int a2)] (by simp [lg_sl, grc, gcat_i, gcat_l]) (by simp [lv_args, grc, gcat_i, gcat_l])
  rw [e1]
  exact w_X8_size_0 C hr a0 a1 a2 _ _ _ _ _ _ hf I hl
def f_X8_part  (a0 : Option Nat) (a1 : Int32) (a2 : Int32) (a3 : Int32) : gM Int32 := gb (nn 7 a0) fun _ => gb (f_X8_recordAt a0 a1) fun v1 => if v1 = none then (gp (-2)) else (if a2 < 0 then (gp (-2)) else (if a2 < 7 then (gb (nn 5 v1) fun _ => gb (f_X6_rowOf v1 a2) fun v2 => if v2 = none then (gp (-1)) else (gb (nn 4 v2) fun _ => gb (f_X5_byteAt v2 a3) fun v3 => gp v3)) else (gp (-2))))
section S_X8_part
variable {G : gX} {p : Program} {l : Launch} {e : Env} {s : State} {m : MethodId} {args : Array Value} {below : List Frame} {meth : Method} {c : Code} {mc ms : Nat} {y : Int32 × gS}
set_option maxHeartbeats 4000000 in
set_option maxRecDepth 100000 in
theorem w_X8_part_0 (C : gC G p s m args meth c cX8_part 6 RX8) (hr : meth.sig.returnType = (some .int))  (a0 : Option Nat) (a1 : Int32) (a2 : Int32) (a3 : Int32) : gJ G p l e 1 21 mc ms s m args below meth c gri y 6 0 [(0, va_rf a0), (1, .int a1), (2, .int a2), (3, .int a3)] [] (f_X8_part  a0 a1 a2 a3) := by
  have hx := C.1
  have hb := C.2.1
  intro σ H locs cells slots ls hf I hl
  unfold f_X8_part at hf
  refine gw_aload_n hx hb dX8_part_0 rfl (lv_at hl 0 rfl) ?_
  refine lv_iload_n hx hb dX8_part_1 rfl (lv_at hl 1 rfl) ?_
  refine gw_callV (rest := []) C I hl.1 gcls_7 (m_X8_recordAt G l a0 a1) gl_RX8_69 gn_X8_recordAt ⟨Nat.le_of_ble_eq_true rfl, Nat.le_of_ble_eq_true rfl⟩ rfl (gc4 (Nat.le_of_ble_eq_true rfl)) rfl dX8_part_2 hf (fun v1 σ H locs cells slots I hf => ?_)
  refine W.eq (g2 := F0 m 5 ls [va_rf v1]) rfl ?_
  refine gw_astore (lv' := [(4, va_rf v1), (0, va_rf a0), (1, .int a1), (2, .int a2), (3, .int a3)]) hx hb dX8_part_5 hl (by decide) rfl (fun ls hl => ?_)
  refine gw_aload hx hb dX8_part_7 (lv_at hl 0 rfl) ?_
  refine gw_ifnull (tgt := 22) hx hb dX8_part_9 (by decide) (fun hq => ?_) (fun hq => ?_)
  · have hf := gift hq hf
    refine lv_bipush (v := (-2)) hx hb dX8_part_22 kc_b_m2 ?_
    exact gw_iret C I hr dX8_part_24 hf
  · have hf := giff hq hf
    refine lv_iload_n hx hb dX8_part_12 rfl (lv_at hl 3 rfl) ?_
    refine lv_if_lt (tgt := 22) hx hb dX8_part_13 (by decide) (fun hq => ?_) (fun hq => ?_)
    · have hf := gift hq hf
      refine lv_bipush (v := (-2)) hx hb dX8_part_22 kc_b_m2 ?_
      exact gw_iret C I hr dX8_part_24 hf
    · have hf := giff hq hf
      refine lv_iload_n hx hb dX8_part_16 rfl (lv_at hl 3 rfl) ?_
      refine lv_bipush (v := 7) hx hb dX8_part_17 kc_b_7 ?_
      refine lv_icmp_lt (tgt := 25) hx hb dX8_part_19 (by decide) (fun hq => ?_) (fun hq => ?_)
      · have hf := gift hq hf
        refine gw_aload hx hb dX8_part_25 (lv_at hl 0 rfl) ?_
        refine lv_iload_n hx hb dX8_part_27 rfl (lv_at hl 3 rfl) ?_
        refine gw_callV (rest := []) C I hl.1 gcls_5 (m_X6_rowOf G l v1 a2) gl_RX8_88 gn_X6_rowOf ⟨Nat.le_of_ble_eq_true rfl, Nat.le_of_ble_eq_true rfl⟩ rfl (gc4 (Nat.le_of_ble_eq_true rfl)) rfl dX8_part_28 hf (fun v2 σ H locs cells slots I hf => ?_)
        refine W.eq (g2 := F0 m 31 ls [va_rf v2]) rfl ?_
        refine gw_astore (lv' := [(5, va_rf v2), (4, va_rf v1), (0, va_rf a0), (1, .int a1), (2, .int a2), (3, .int a3)]) hx hb dX8_part_31 hl (by decide) (by cases v1 <;> rfl) (fun ls hl => ?_)
        refine gw_aload hx hb dX8_part_33 (lv_at hl 0 rfl) ?_
        refine gw_ifnonnull (tgt := 42) hx hb dX8_part_35 (by decide) (fun hq => ?_) (fun hq => ?_)
        · have hf := giff hq hf
          refine gw_aload hx hb dX8_part_42 (lv_at hl 0 rfl) ?_
          refine lv_iload_n hx hb dX8_part_44 rfl (lv_at hl 5 rfl) ?_
          refine gw_callV (rest := []) C I hl.1 gcls_4 (m_X5_byteAt G l v2 a3) gl_RX8_84 gn_X5_byteAt ⟨Nat.le_of_ble_eq_true rfl, Nat.le_of_ble_eq_true rfl⟩ rfl (gc4 (Nat.le_of_ble_eq_true rfl)) rfl dX8_part_45 hf (fun v3 σ H locs cells slots I hf => ?_)
          refine W.eq (g2 := F0 m 48 ls [.int v3]) rfl ?_
          exact gw_iret C I hr dX8_part_48 hf
        · have hf := gift hq hf
          refine lv_iconst (v := (-1)) hx hb dX8_part_38 kc_i_m1 ?_
          refine lv_goto (tgt := 48) hx hb dX8_part_39 (by decide) ?_
          exact gw_iret C I hr dX8_part_48 hf
      · have hf := giff hq hf
        refine lv_bipush (v := (-2)) hx hb dX8_part_22 kc_b_m2 ?_
        exact gw_iret C I hr dX8_part_24 hf
end S_X8_part
theorem m_X8_part (G : gX) (l : Launch) (a0 : Option Nat) (a1 : Int32) (a2 : Int32) (a3 : Int32) : gMet G l yX8_part cX8_part 6 (some .int) 1 21 [va_rf a0, .int a1, .int a2, .int a3] gri (f_X8_part a0 a1 a2 a3) := by
  refine gMet_of (by decide) ?_
  intro σ y p e s m below meth c mc ms hf C hr hnm I
  obtain ⟨ls, e1, hl⟩ := gentry m [va_rf a0, .int a1, .int a2, .int a3] 6 [(0, va_rf a0), (1, .int a1), (2, .int a2), (3, .int a3)] (by simp [lg_sl, grc, gcat_i, gcat_l]) (by simp [lv_args, grc, gcat_i, gcat_l])
  rw [e1]
  exact w_X8_part_0 C hr a0 a1 a2 a3 _ _ _ _ _ _ hf I hl
def f_X6_portThatCounts  (a0 : Option Nat) : gM Int32 := gb (rI 5 5 a0) fun v1 => if v1 = (-1) then (gb (rI 5 0 a0) fun v3 => gb (f_X6_portOf v3) fun v4 => gp v4) else (gb (rI 5 5 a0) fun v2 => gp v2)
section S_X6_portThatCounts
variable {G : gX} {p : Program} {l : Launch} {e : Env} {s : State} {m : MethodId} {args : Array Value} {below : List Frame} {meth : Method} {c : Code} {mc ms : Nat} {y : Int32 × gS}
set_option maxHeartbeats 4000000 in
set_option maxRecDepth 100000 in
theorem w_X6_portThatCounts_0 (C : gC G p s m args meth c cX6_portThatCounts 1 RX6) (hr : meth.sig.returnType = (some .int))  (a0 : Option Nat) : gJ G p l e 1 20 mc ms s m args below meth c gri y 1 0 [(0, va_rf a0)] [] (f_X6_portThatCounts  a0) := by
  have hx := C.1
  have hb := C.2.1
  intro σ H locs cells slots ls hf I hl
  unfold f_X6_portThatCounts at hf
  refine gw_aload_n hx hb dX6_portThatCounts_0 rfl (lv_at hl 0 rfl) ?_
  refine gw_geti (k := 5) C I gcls_5 (by decide) rfl kw_56 dX6_portThatCounts_1 hf (fun v1 hf => ?_)
  refine lv_iconst (v := (-1)) hx hb dX6_portThatCounts_4 kc_i_m1 ?_
  refine lv_icmp_ne (tgt := 18) hx hb dX6_portThatCounts_5 (by decide) (fun hq => ?_) (fun hq => ?_)
  · have hf := giff hq hf
    refine gw_aload_n hx hb dX6_portThatCounts_18 rfl (lv_at hl 0 rfl) ?_
    refine gw_geti (k := 5) C I gcls_5 (by decide) rfl kw_56 dX6_portThatCounts_19 hf (fun v2 hf => ?_)
    exact gw_iret C I hr dX6_portThatCounts_22 hf
  · have hf := gift hq hf
    refine gw_aload_n hx hb dX6_portThatCounts_8 rfl (lv_at hl 0 rfl) ?_
    refine gw_geti (k := 0) C I gcls_5 (by decide) rfl kw_46 dX6_portThatCounts_9 hf (fun v3 hf => ?_)
    refine gw_callS (rest := []) C I hl.1 (m_X6_portOf G l v3) gl_RX6_96 kw_138 ⟨Nat.le_of_ble_eq_true rfl, Nat.le_of_ble_eq_true rfl⟩ rfl (gc4 (Nat.le_of_ble_eq_true rfl)) rfl dX6_portThatCounts_12 hf (fun v4 σ H locs cells slots I hf => ?_)
    refine W.eq (g2 := F0 m 15 ls [.int v4]) rfl ?_
    refine lv_goto (tgt := 22) hx hb dX6_portThatCounts_15 (by decide) ?_
    exact gw_iret C I hr dX6_portThatCounts_22 hf
end S_X6_portThatCounts
theorem m_X6_portThatCounts (G : gX) (l : Launch) (a0 : Option Nat) : gMet G l yX6_portThatCounts cX6_portThatCounts 1 (some .int) 1 20 [va_rf a0] gri (f_X6_portThatCounts a0) := by
  refine gMet_of (by decide) ?_
  intro σ y p e s m below meth c mc ms hf C hr hnm I
  obtain ⟨ls, e1, hl⟩ := gentry m [va_rf a0] 1 [(0, va_rf a0)] (by simp [lg_sl, grc, gcat_i, gcat_l]) (by simp [lv_args, grc, gcat_i, gcat_l])
  rw [e1]
  exact w_X6_portThatCounts_0 C hr a0 _ _ _ _ _ _ hf I hl
def f_X8_told  (a0 : Option Nat) (a1 : Int32) (a2 : Int32) : gM Int32 := gb (nn 7 a0) fun _ => gb (f_X8_recordAt a0 a1) fun v1 => if v1 = none then (gp (-2)) else (if a2 = 0 then (gb (rI 5 5 v1) fun v2 => gp v2) else if a2 = 1 then (gb (nn 5 v1) fun _ => gb (f_X6_portThatCounts v1) fun v3 => gp v3) else if a2 = 2 then (gb (rR 5 4 v1) fun v4 => gb (rR 2 0 v4) fun v5 => gb (rI 0 0 v5) fun v6 => gp v6) else if a2 = 3 then (gb (rI 5 7 v1) fun v7 => gp v7) else (gp (-2)))
section S_X8_told
variable {G : gX} {p : Program} {l : Launch} {e : Env} {s : State} {m : MethodId} {args : Array Value} {below : List Frame} {meth : Method} {c : Code} {mc ms : Nat} {y : Int32 × gS}
set_option maxHeartbeats 4000000 in
set_option maxRecDepth 100000 in
theorem w_X8_told_0 (C : gC G p s m args meth c cX8_told 4 RX8) (hr : meth.sig.returnType = (some .int))  (a0 : Option Nat) (a1 : Int32) (a2 : Int32) : gJ G p l e 2 40 mc ms s m args below meth c gri y 4 0 [(0, va_rf a0), (1, .int a1), (2, .int a2)] [] (f_X8_told  a0 a1 a2) := by
  have hx := C.1
  have hb := C.2.1
  intro σ H locs cells slots ls hf I hl
  unfold f_X8_told at hf
  refine gw_aload_n hx hb dX8_told_0 rfl (lv_at hl 0 rfl) ?_
  refine lv_iload_n hx hb dX8_told_1 rfl (lv_at hl 1 rfl) ?_
  refine gw_callV (rest := []) C I hl.1 gcls_7 (m_X8_recordAt G l a0 a1) gl_RX8_69 gn_X8_recordAt ⟨Nat.le_of_ble_eq_true rfl, Nat.le_of_ble_eq_true rfl⟩ rfl (gc4 (Nat.le_of_ble_eq_true rfl)) rfl dX8_told_2 hf (fun v1 σ H locs cells slots I hf => ?_)
  refine W.eq (g2 := F0 m 5 ls [va_rf v1]) rfl ?_
  refine gw_astore_n (lv' := [(3, va_rf v1), (0, va_rf a0), (1, .int a1), (2, .int a2)]) hx hb dX8_told_5 rfl hl (by decide) rfl (fun ls hl => ?_)
  refine gw_aload_n hx hb dX8_told_6 rfl (lv_at hl 0 rfl) ?_
  refine gw_ifnonnull (tgt := 13) hx hb dX8_told_7 (by decide) (fun hq => ?_) (fun hq => ?_)
  · have hf := giff hq hf
    refine lv_iload_n hx hb dX8_told_13 rfl (lv_at hl 3 rfl) ?_
    by_cases hq0 : a2 = 0
    · have hf := gift hq0 hf
      refine gw_sw (tgt := 44) hx hb dX8_told_14 hq0 (by decide) (by decide) rfl (by decide) ?_
      refine gw_aload_n hx hb dX8_told_44 rfl (lv_at hl 0 rfl) ?_
      refine gw_geti (k := 5) C I gcls_5 (by decide) rfl kw_149 dX8_told_45 hf (fun v2 hf => ?_)
      exact gw_iret C I hr dX8_told_48 hf
    have hf := giff hq0 hf
    by_cases hq1 : a2 = 1
    · have hf := gift hq1 hf
      refine gw_sw (tgt := 49) hx hb dX8_told_14 hq1 (by decide) (by decide) rfl (by decide) ?_
      refine gw_aload_n hx hb dX8_told_49 rfl (lv_at hl 0 rfl) ?_
      refine gw_callV (rest := []) C I hl.1 gcls_5 (m_X6_portThatCounts G l v1) gl_RX8_95 gn_X6_portThatCounts ⟨Nat.le_of_ble_eq_true rfl, Nat.le_of_ble_eq_true rfl⟩ rfl (gc4 (Nat.le_of_ble_eq_true rfl)) rfl dX8_told_50 hf (fun v3 σ H locs cells slots I hf => ?_)
      refine W.eq (g2 := F0 m 53 ls [.int v3]) rfl ?_
      exact gw_iret C I hr dX8_told_53 hf
    have hf := giff hq1 hf
    by_cases hq2 : a2 = 2
    · have hf := gift hq2 hf
      refine gw_sw (tgt := 54) hx hb dX8_told_14 hq2 (by decide) (by decide) rfl (by decide) ?_
      refine gw_aload_n hx hb dX8_told_54 rfl (lv_at hl 0 rfl) ?_
      refine gw_getr (k := 4) C I gcls_5 (by decide) rfl kw_150 dX8_told_55 hf (fun v4 hf => ?_)
      refine gw_getr (k := 0) C I gcls_2 (by decide) rfl kw_151 dX8_told_58 hf (fun v5 hf => ?_)
      refine gw_geti (k := 0) C I gcls_0 (by decide) rfl kw_152 dX8_told_61 hf (fun v6 hf => ?_)
      exact gw_iret C I hr dX8_told_64 hf
    have hf := giff hq2 hf
    by_cases hq3 : a2 = 3
    · have hf := gift hq3 hf
      refine gw_sw (tgt := 65) hx hb dX8_told_14 hq3 (by decide) (by decide) rfl (by decide) ?_
      refine gw_aload_n hx hb dX8_told_65 rfl (lv_at hl 0 rfl) ?_
      refine gw_geti (k := 7) C I gcls_5 (by decide) rfl kw_153 dX8_told_66 hf (fun v7 hf => ?_)
      exact gw_iret C I hr dX8_told_69 hf
    have hf := giff hq3 hf
    refine lv_tableOut (tgt := 70) hx hb dX8_told_14 (by have := lv_neT hq0 (a := 0) (by decide); have := lv_neT hq1 (a := 1) (by decide); have := lv_neT hq2 (a := 2) (by decide); have := lv_neT hq3 (a := 3) (by decide); omega) (by decide) ?_
    refine lv_bipush (v := (-2)) hx hb dX8_told_70 kc_b_m2 ?_
    exact gw_iret C I hr dX8_told_72 hf
  · have hf := gift hq hf
    refine lv_bipush (v := (-2)) hx hb dX8_told_10 kc_b_m2 ?_
    exact gw_iret C I hr dX8_told_12 hf
end S_X8_told
theorem m_X8_told (G : gX) (l : Launch) (a0 : Option Nat) (a1 : Int32) (a2 : Int32) : gMet G l yX8_told cX8_told 4 (some .int) 2 40 [va_rf a0, .int a1, .int a2] gri (f_X8_told a0 a1 a2) := by
  refine gMet_of (by decide) ?_
  intro σ y p e s m below meth c mc ms hf C hr hnm I
  obtain ⟨ls, e1, hl⟩ := gentry m [va_rf a0, .int a1, .int a2] 4 [(0, va_rf a0), (1, .int a1), (2, .int a2)] (by simp [lg_sl, grc, gcat_i, gcat_l]) (by simp [lv_args, grc, gcat_i, gcat_l])
  rw [e1]
  exact w_X8_told_0 C hr a0 a1 a2 _ _ _ _ _ _ hf I hl
def f_X8_number  (a0 : Option Nat) (a1 : Int32) (a2 : Int32) : gM Int32 := gb (nn 7 a0) fun _ => gb (f_X8_recordAt a0 a1) fun v1 => if v1 = none then (gp (-2)) else (if a2 < 0 then (gp (-2)) else (if a2 ≤ 7 then (gb (rR 5 4 v1) fun v2 => gb (rR 2 0 v2) fun v3 => gb (nn 0 v3) fun _ => gb (f_X0_numberAt v3 a2) fun v4 => gp v4) else (gp (-2))))
section S_X8_number
variable {G : gX} {p : Program} {l : Launch} {e : Env} {s : State} {m : MethodId} {args : Array Value} {below : List Frame} {meth : Method} {c : Code} {mc ms : Nat} {y : Int32 × gS}
set_option maxHeartbeats 4000000 in
set_option maxRecDepth 100000 in
theorem w_X8_number_0 (C : gC G p s m args meth c cX8_number 4 RX8) (hr : meth.sig.returnType = (some .int))  (a0 : Option Nat) (a1 : Int32) (a2 : Int32) : gJ G p l e 1 21 mc ms s m args below meth c gri y 4 0 [(0, va_rf a0), (1, .int a1), (2, .int a2)] [] (f_X8_number  a0 a1 a2) := by
  have hx := C.1
  have hb := C.2.1
  intro σ H locs cells slots ls hf I hl
  unfold f_X8_number at hf
  refine gw_aload_n hx hb dX8_number_0 rfl (lv_at hl 0 rfl) ?_
  refine lv_iload_n hx hb dX8_number_1 rfl (lv_at hl 1 rfl) ?_
  refine gw_callV (rest := []) C I hl.1 gcls_7 (m_X8_recordAt G l a0 a1) gl_RX8_69 gn_X8_recordAt ⟨Nat.le_of_ble_eq_true rfl, Nat.le_of_ble_eq_true rfl⟩ rfl (gc4 (Nat.le_of_ble_eq_true rfl)) rfl dX8_number_2 hf (fun v1 σ H locs cells slots I hf => ?_)
  refine W.eq (g2 := F0 m 5 ls [va_rf v1]) rfl ?_
  refine gw_astore_n (lv' := [(3, va_rf v1), (0, va_rf a0), (1, .int a1), (2, .int a2)]) hx hb dX8_number_5 rfl hl (by decide) rfl (fun ls hl => ?_)
  refine gw_aload_n hx hb dX8_number_6 rfl (lv_at hl 0 rfl) ?_
  refine gw_ifnull (tgt := 20) hx hb dX8_number_7 (by decide) (fun hq => ?_) (fun hq => ?_)
  · have hf := gift hq hf
    refine lv_bipush (v := (-2)) hx hb dX8_number_20 kc_b_m2 ?_
    exact gw_iret C I hr dX8_number_22 hf
  · have hf := giff hq hf
    refine lv_iload_n hx hb dX8_number_10 rfl (lv_at hl 3 rfl) ?_
    refine lv_if_lt (tgt := 20) hx hb dX8_number_11 (by decide) (fun hq => ?_) (fun hq => ?_)
    · have hf := gift hq hf
      refine lv_bipush (v := (-2)) hx hb dX8_number_20 kc_b_m2 ?_
      exact gw_iret C I hr dX8_number_22 hf
    · have hf := giff hq hf
      refine lv_iload_n hx hb dX8_number_14 rfl (lv_at hl 3 rfl) ?_
      refine lv_bipush (v := 7) hx hb dX8_number_15 kc_b_7 ?_
      refine lv_icmp_le (tgt := 23) hx hb dX8_number_17 (by decide) (fun hq => ?_) (fun hq => ?_)
      · have hf := gift hq hf
        refine gw_aload_n hx hb dX8_number_23 rfl (lv_at hl 0 rfl) ?_
        refine gw_getr (k := 4) C I gcls_5 (by decide) rfl kw_150 dX8_number_24 hf (fun v2 hf => ?_)
        refine gw_getr (k := 0) C I gcls_2 (by decide) rfl kw_151 dX8_number_27 hf (fun v3 hf => ?_)
        refine lv_iload_n hx hb dX8_number_30 rfl (lv_at hl 3 rfl) ?_
        refine gw_callV (rest := []) C I hl.1 gcls_0 (m_X0_numberAt G l v3 a2) gl_RX8_114 gn_X0_numberAt ⟨Nat.le_of_ble_eq_true rfl, Nat.le_of_ble_eq_true rfl⟩ rfl (gc4 (Nat.le_of_ble_eq_true rfl)) rfl dX8_number_31 hf (fun v4 σ H locs cells slots I hf => ?_)
        refine W.eq (g2 := F0 m 34 ls [.int v4]) rfl ?_
        exact gw_iret C I hr dX8_number_34 hf
      · have hf := giff hq hf
        refine lv_bipush (v := (-2)) hx hb dX8_number_20 kc_b_m2 ?_
        exact gw_iret C I hr dX8_number_22 hf
end S_X8_number
theorem m_X8_number (G : gX) (l : Launch) (a0 : Option Nat) (a1 : Int32) (a2 : Int32) : gMet G l yX8_number cX8_number 4 (some .int) 1 21 [va_rf a0, .int a1, .int a2] gri (f_X8_number a0 a1 a2) := by
  refine gMet_of (by decide) ?_
  intro σ y p e s m below meth c mc ms hf C hr hnm I
  obtain ⟨ls, e1, hl⟩ := gentry m [va_rf a0, .int a1, .int a2] 4 [(0, va_rf a0), (1, .int a1), (2, .int a2)] (by simp [lg_sl, grc, gcat_i, gcat_l]) (by simp [lv_args, grc, gcat_i, gcat_l])
  rw [e1]
  exact w_X8_number_0 C hr a0 a1 a2 _ _ _ _ _ _ hf I hl
def f_X5_endsWith_18 (rec18 : Option Nat → Option Nat → Int32 → Int32 → gM Int32) (x0 : Option Nat) (x1 : Option Nat) (x2 : Int32) (x3 : Int32) : gM Int32 := gb (rI 4 1 x1) fun v1 => if v1 ≤ x3 then (gz 1) else (gb (nn 4 x0) fun _ => gb (f_X5_byteAt x0 (x2 + x3)) fun v2 => gb (nn 4 x1) fun _ => gb (f_X5_byteAt x1 x3) fun v3 => if v2 = v3 then (rec18 x0 x1 x2 (x3 + 1)) else (gz 0))
def f_X5_endsWith_L18  : Nat → Option Nat → Option Nat → Int32 → Int32 → gM Int32
  | 0, _, _, _, _ => gno
  | n + 1, x0, x1, x2, x3 => f_X5_endsWith_18  (f_X5_endsWith_L18  n) x0 x1 x2 x3
def f_X5_endsWith  (a0 : Option Nat) (a1 : Option Nat) : gM Int32 := gb (rI 4 1 a0) fun v1 => gb (rI 4 1 a1) fun v2 => if 0 ≤ (v1 - v2) then (f_X5_endsWith_L18  gF a0 a1 (v1 - v2) 0) else (gz 0)
section S_X5_endsWith
variable {G : gX} {p : Program} {l : Launch} {e : Env} {s : State} {m : MethodId} {args : Array Value} {below : List Frame} {meth : Method} {c : Code} {mc ms : Nat} {y : Int32 × gS}
set_option maxHeartbeats 4000000 in
set_option maxRecDepth 100000 in
theorem w_X5_endsWith_18 (C : gC G p s m args meth c cX5_endsWith 4 RX5) (hr : meth.sig.returnType = (some .boolean)) {rec18 : Option Nat → Option Nat → Int32 → Int32 → gM Int32} (hrec18 : ∀ (x0 : Option Nat) (x1 : Option Nat) (x2 : Int32) (x3 : Int32), gJ G p l e 1 21 mc ms s m args below meth c gri y 4 18 [(0, va_rf x0), (1, va_rf x1), (2, .int x2), (3, .int x3)] [] (rec18 x0 x1 x2 x3)) (x0 : Option Nat) (x1 : Option Nat) (x2 : Int32) (x3 : Int32) : gJ G p l e 1 21 mc ms s m args below meth c gri y 4 18 [(0, va_rf x0), (1, va_rf x1), (2, .int x2), (3, .int x3)] [] (f_X5_endsWith_18 rec18 x0 x1 x2 x3) := by
  have hx := C.1
  have hb := C.2.1
  intro σ H locs cells slots ls hf I hl
  unfold f_X5_endsWith_18 at hf
  refine lv_iload_n hx hb dX5_endsWith_18 rfl (lv_at hl 3 rfl) ?_
  refine gw_aload_n hx hb dX5_endsWith_19 rfl (lv_at hl 1 rfl) ?_
  refine gw_geti (k := 1) C I gcls_4 (by decide) rfl kw_5 dX5_endsWith_20 hf (fun v1 hf => ?_)
  refine lv_icmp_ge (tgt := 49) hx hb dX5_endsWith_23 (by decide) (fun hq => ?_) (fun hq => ?_)
  · have hf := gift hq hf
    refine lv_iconst (v := 1) hx hb dX5_endsWith_49 kc_i_1 ?_
    exact gw_zret C I hr dX5_endsWith_50 hf
  · have hf := giff hq hf
    refine gw_aload_n hx hb dX5_endsWith_26 rfl (lv_at hl 0 rfl) ?_
    refine lv_iload_n hx hb dX5_endsWith_27 rfl (lv_at hl 2 rfl) ?_
    refine lv_iload_n hx hb dX5_endsWith_28 rfl (lv_at hl 3 rfl) ?_
    refine lv_iadd hx hb dX5_endsWith_29 ?_
    refine gw_callV (rest := []) C I hl.1 gcls_4 (m_X5_byteAt G l x0 (x2 + x3)) gl_RX5_25 gn_X5_byteAt ⟨Nat.le_of_ble_eq_true rfl, Nat.le_of_ble_eq_true rfl⟩ rfl (gc4 (Nat.le_of_ble_eq_true rfl)) rfl dX5_endsWith_30 hf (fun v2 σ H locs cells slots I hf => ?_)
    refine W.eq (g2 := F0 m 33 ls [.int v2]) rfl ?_
    refine gw_aload_n hx hb dX5_endsWith_33 rfl (lv_at hl 1 rfl) ?_
    refine lv_iload_n hx hb dX5_endsWith_34 rfl (lv_at hl 3 rfl) ?_
    refine gw_callV (rest := [.int v2]) C I hl.1 gcls_4 (m_X5_byteAt G l x1 x3) gl_RX5_25 gn_X5_byteAt ⟨Nat.le_of_ble_eq_true rfl, Nat.le_of_ble_eq_true rfl⟩ rfl (gc4 (Nat.le_of_ble_eq_true rfl)) rfl dX5_endsWith_35 hf (fun v3 σ H locs cells slots I hf => ?_)
    refine W.eq (g2 := F0 m 38 ls [.int v3, .int v2]) rfl ?_
    refine lv_icmp_eq (tgt := 43) hx hb dX5_endsWith_38 (by decide) (fun hq => ?_) (fun hq => ?_)
    · have hf := gift hq hf
      refine lv_iinc (v := x3 + 1) (lv' := [(3, .int (x3 + 1)), (0, va_rf x0), (1, va_rf x1), (2, .int x2)]) hx hb dX5_endsWith_43 hl (k := 3) rfl rfl (by decide) rfl (fun ls hl => ?_)
      refine lv_goto (tgt := 18) hx hb dX5_endsWith_46 (by decide) ?_
      exact hrec18 x0 x1 x2 (x3 + 1) _ _ _ _ _ _ hf I (lv_sub hl [1, 2, 3, 0] rfl)
    · have hf := giff hq hf
      refine lv_iconst (v := 0) hx hb dX5_endsWith_41 kc_i_0 ?_
      exact gw_zret C I hr dX5_endsWith_42 hf
theorem w_X5_endsWith_L18 (C : gC G p s m args meth c cX5_endsWith 4 RX5) (hr : meth.sig.returnType = (some .boolean))  : ∀ (n : Nat) (x0 : Option Nat) (x1 : Option Nat) (x2 : Int32) (x3 : Int32), gJ G p l e 1 21 mc ms s m args below meth c gri y 4 18 [(0, va_rf x0), (1, va_rf x1), (2, .int x2), (3, .int x3)] [] (f_X5_endsWith_L18  n x0 x1 x2 x3) := by
  intro n
  induction n with
  | zero => intro x0 x1 x2 x3 σ H locs cells slots ls hf; exact (gno_some hf).elim
  | succ n ih => intro x0 x1 x2 x3; exact w_X5_endsWith_18 C hr  ih x0 x1 x2 x3
set_option maxHeartbeats 4000000 in
set_option maxRecDepth 100000 in
theorem w_X5_endsWith_0 (C : gC G p s m args meth c cX5_endsWith 4 RX5) (hr : meth.sig.returnType = (some .boolean))  (a0 : Option Nat) (a1 : Option Nat) : gJ G p l e 1 21 mc ms s m args below meth c gri y 4 0 [(0, va_rf a0), (1, va_rf a1)] [] (f_X5_endsWith  a0 a1) := by
  have hx := C.1
  have hb := C.2.1
  intro σ H locs cells slots ls hf I hl
  unfold f_X5_endsWith at hf
  refine gw_aload_n hx hb dX5_endsWith_0 rfl (lv_at hl 0 rfl) ?_
  refine gw_geti (k := 1) C I gcls_4 (by decide) rfl kw_5 dX5_endsWith_1 hf (fun v1 hf => ?_)
  refine gw_aload_n hx hb dX5_endsWith_4 rfl (lv_at hl 1 rfl) ?_
  refine gw_geti (k := 1) C I gcls_4 (by decide) rfl kw_5 dX5_endsWith_5 hf (fun v2 hf => ?_)
  refine lv_isub hx hb dX5_endsWith_8 ?_
  refine lv_istore_n (lv' := [(2, .int (v1 - v2)), (0, va_rf a0), (1, va_rf a1)]) hx hb dX5_endsWith_9 rfl hl (by decide) (by cases a1 <;> rfl) (fun ls hl => ?_)
  refine lv_iload_n hx hb dX5_endsWith_10 rfl (lv_at hl 0 rfl) ?_
  refine lv_if_ge (tgt := 16) hx hb dX5_endsWith_11 (by decide) (fun hq => ?_) (fun hq => ?_)
  · have hf := gift hq hf
    refine lv_iconst (v := 0) hx hb dX5_endsWith_16 kc_i_0 ?_
    refine lv_istore_n (lv' := [(3, .int 0), (2, .int (v1 - v2)), (0, va_rf a0), (1, va_rf a1)]) hx hb dX5_endsWith_17 rfl hl (by decide) rfl (fun ls hl => ?_)
    exact w_X5_endsWith_L18 C hr  _ a0 a1 (v1 - v2) 0 _ _ _ _ _ _ hf I (lv_sub hl [2, 3, 1, 0] rfl)
  · have hf := giff hq hf
    refine lv_iconst (v := 0) hx hb dX5_endsWith_14 kc_i_0 ?_
    exact gw_zret C I hr dX5_endsWith_15 hf
end S_X5_endsWith
theorem m_X5_endsWith (G : gX) (l : Launch) (a0 : Option Nat) (a1 : Option Nat) : gMet G l yX5_endsWith cX5_endsWith 4 (some .boolean) 1 21 [va_rf a0, va_rf a1] gri (f_X5_endsWith a0 a1) := by
  refine gMet_of (by decide) ?_
  intro σ y p e s m below meth c mc ms hf C hr hnm I
  obtain ⟨ls, e1, hl⟩ := gentry m [va_rf a0, va_rf a1] 4 [(0, va_rf a0), (1, va_rf a1)] (by simp [lg_sl, grc, gcat_i, gcat_l]) (by simp [lv_args, grc, gcat_i, gcat_l])
  rw [e1]
  exact w_X5_endsWith_0 C hr a0 a1 _ _ _ _ _ _ hf I hl
def f_X5_equalsRow  (a0 : Option Nat) (a1 : Option Nat) : gM Int32 := gb (rI 4 1 a0) fun v1 => gb (rI 4 1 a1) fun v2 => if v1 = v2 then (gb (nn 4 a0) fun _ => gb (f_X5_endsWith a0 a1) fun v3 => if v3 = 0 then (gz 0) else (gz 1)) else (gz 0)
section S_X5_equalsRow
variable {G : gX} {p : Program} {l : Launch} {e : Env} {s : State} {m : MethodId} {args : Array Value} {below : List Frame} {meth : Method} {c : Code} {mc ms : Nat} {y : Int32 × gS}
set_option maxHeartbeats 4000000 in
set_option maxRecDepth 100000 in
theorem w_X5_equalsRow_0 (C : gC G p s m args meth c cX5_equalsRow 2 RX5) (hr : meth.sig.returnType = (some .boolean))  (a0 : Option Nat) (a1 : Option Nat) : gJ G p l e 2 44 mc ms s m args below meth c gri y 2 0 [(0, va_rf a0), (1, va_rf a1)] [] (f_X5_equalsRow  a0 a1) := by
  have hx := C.1
  have hb := C.2.1
  intro σ H locs cells slots ls hf I hl
  unfold f_X5_equalsRow at hf
  refine gw_aload_n hx hb dX5_equalsRow_0 rfl (lv_at hl 0 rfl) ?_
  refine gw_geti (k := 1) C I gcls_4 (by decide) rfl kw_5 dX5_equalsRow_1 hf (fun v1 hf => ?_)
  refine gw_aload_n hx hb dX5_equalsRow_4 rfl (lv_at hl 1 rfl) ?_
  refine gw_geti (k := 1) C I gcls_4 (by decide) rfl kw_5 dX5_equalsRow_5 hf (fun v2 hf => ?_)
  refine lv_icmp_ne (tgt := 23) hx hb dX5_equalsRow_8 (by decide) (fun hq => ?_) (fun hq => ?_)
  · have hf := giff hq hf
    refine lv_iconst (v := 0) hx hb dX5_equalsRow_23 kc_i_0 ?_
    exact gw_zret C I hr dX5_equalsRow_24 hf
  · have hf := gift hq hf
    refine gw_aload_n hx hb dX5_equalsRow_11 rfl (lv_at hl 0 rfl) ?_
    refine gw_aload_n hx hb dX5_equalsRow_12 rfl (lv_at hl 1 rfl) ?_
    refine gw_callV (rest := []) C I hl.1 gcls_4 (m_X5_endsWith G l a0 a1) gl_RX5_52 gn_X5_endsWith ⟨Nat.le_of_ble_eq_true rfl, Nat.le_of_ble_eq_true rfl⟩ rfl (gc4 (Nat.le_of_ble_eq_true rfl)) rfl dX5_equalsRow_13 hf (fun v3 σ H locs cells slots I hf => ?_)
    refine W.eq (g2 := F0 m 16 ls [.int v3]) rfl ?_
    refine lv_if_eq (tgt := 23) hx hb dX5_equalsRow_16 (by decide) (fun hq => ?_) (fun hq => ?_)
    · have hf := gift hq hf
      refine lv_iconst (v := 0) hx hb dX5_equalsRow_23 kc_i_0 ?_
      exact gw_zret C I hr dX5_equalsRow_24 hf
    · have hf := giff hq hf
      refine lv_iconst (v := 1) hx hb dX5_equalsRow_19 kc_i_1 ?_
      refine lv_goto (tgt := 24) hx hb dX5_equalsRow_20 (by decide) ?_
      exact gw_zret C I hr dX5_equalsRow_24 hf
end S_X5_equalsRow
theorem m_X5_equalsRow (G : gX) (l : Launch) (a0 : Option Nat) (a1 : Option Nat) : gMet G l yX5_equalsRow cX5_equalsRow 2 (some .boolean) 2 44 [va_rf a0, va_rf a1] gri (f_X5_equalsRow a0 a1) := by
  refine gMet_of (by decide) ?_
  intro σ y p e s m below meth c mc ms hf C hr hnm I
  obtain ⟨ls, e1, hl⟩ := gentry m [va_rf a0, va_rf a1] 2 [(0, va_rf a0), (1, va_rf a1)] (by simp [lg_sl, grc, gcat_i, gcat_l]) (by simp [lv_args, grc, gcat_i, gcat_l])
  rw [e1]
  exact w_X5_equalsRow_0 C hr a0 a1 _ _ _ _ _ _ hf I hl
def f_X3_equalsHost  (a0 : Option Nat) (a1 : Option Nat) : gM Int32 := gb (rR 2 0 a0) fun v1 => gb (rI 0 0 v1) fun v2 => gb (rR 2 0 a1) fun v3 => gb (rI 0 0 v3) fun v4 => if v2 = v4 then (gb (rR 2 1 a0) fun v5 => gb (rR 2 1 a1) fun v6 => gb (nn 4 v5) fun _ => gb (f_X5_equalsRow v5 v6) fun v7 => if v7 = 0 then (gz 0) else (gz 1)) else (gz 0)
section S_X3_equalsHost
variable {G : gX} {p : Program} {l : Launch} {e : Env} {s : State} {m : MethodId} {args : Array Value} {below : List Frame} {meth : Method} {c : Code} {mc ms : Nat} {y : Int32 × gS}
set_option maxHeartbeats 4000000 in
set_option maxRecDepth 100000 in
theorem w_X3_equalsHost_0 (C : gC G p s m args meth c cX3_equalsHost 2 RX3) (hr : meth.sig.returnType = (some .boolean))  (a0 : Option Nat) (a1 : Option Nat) : gJ G p l e 3 65 mc ms s m args below meth c gri y 2 0 [(0, va_rf a0), (1, va_rf a1)] [] (f_X3_equalsHost  a0 a1) := by
  have hx := C.1
  have hb := C.2.1
  intro σ H locs cells slots ls hf I hl
  unfold f_X3_equalsHost at hf
  refine gw_aload_n hx hb dX3_equalsHost_0 rfl (lv_at hl 0 rfl) ?_
  refine gw_getr (k := 0) C I gcls_2 (by decide) rfl kw_14 dX3_equalsHost_1 hf (fun v1 hf => ?_)
  refine gw_geti (k := 0) C I gcls_0 (by decide) rfl kw_154 dX3_equalsHost_4 hf (fun v2 hf => ?_)
  refine gw_aload_n hx hb dX3_equalsHost_7 rfl (lv_at hl 1 rfl) ?_
  refine gw_getr (k := 0) C I gcls_2 (by decide) rfl kw_14 dX3_equalsHost_8 hf (fun v3 hf => ?_)
  refine gw_geti (k := 0) C I gcls_0 (by decide) rfl kw_154 dX3_equalsHost_11 hf (fun v4 hf => ?_)
  refine lv_icmp_ne (tgt := 35) hx hb dX3_equalsHost_14 (by decide) (fun hq => ?_) (fun hq => ?_)
  · have hf := giff hq hf
    refine lv_iconst (v := 0) hx hb dX3_equalsHost_35 kc_i_0 ?_
    exact gw_zret C I hr dX3_equalsHost_36 hf
  · have hf := gift hq hf
    refine gw_aload_n hx hb dX3_equalsHost_17 rfl (lv_at hl 0 rfl) ?_
    refine gw_getr (k := 1) C I gcls_2 (by decide) rfl kw_19 dX3_equalsHost_18 hf (fun v5 hf => ?_)
    refine gw_aload_n hx hb dX3_equalsHost_21 rfl (lv_at hl 1 rfl) ?_
    refine gw_getr (k := 1) C I gcls_2 (by decide) rfl kw_19 dX3_equalsHost_22 hf (fun v6 hf => ?_)
    refine gw_callV (rest := []) C I hl.1 gcls_4 (m_X5_equalsRow G l v5 v6) gl_RX3_34 gn_X5_equalsRow ⟨Nat.le_of_ble_eq_true rfl, Nat.le_of_ble_eq_true rfl⟩ rfl (gc4 (Nat.le_of_ble_eq_true rfl)) rfl dX3_equalsHost_25 hf (fun v7 σ H locs cells slots I hf => ?_)
    refine W.eq (g2 := F0 m 28 ls [.int v7]) rfl ?_
    refine lv_if_eq (tgt := 35) hx hb dX3_equalsHost_28 (by decide) (fun hq => ?_) (fun hq => ?_)
    · have hf := gift hq hf
      refine lv_iconst (v := 0) hx hb dX3_equalsHost_35 kc_i_0 ?_
      exact gw_zret C I hr dX3_equalsHost_36 hf
    · have hf := giff hq hf
      refine lv_iconst (v := 1) hx hb dX3_equalsHost_31 kc_i_1 ?_
      refine lv_goto (tgt := 36) hx hb dX3_equalsHost_32 (by decide) ?_
      exact gw_zret C I hr dX3_equalsHost_36 hf
end S_X3_equalsHost
theorem m_X3_equalsHost (G : gX) (l : Launch) (a0 : Option Nat) (a1 : Option Nat) : gMet G l yX3_equalsHost cX3_equalsHost 2 (some .boolean) 3 65 [va_rf a0, va_rf a1] gri (f_X3_equalsHost a0 a1) := by
  refine gMet_of (by decide) ?_
  intro σ y p e s m below meth c mc ms hf C hr hnm I
  obtain ⟨ls, e1, hl⟩ := gentry m [va_rf a0, va_rf a1] 2 [(0, va_rf a0), (1, va_rf a1)] (by simp [lg_sl, grc, gcat_i, gcat_l]) (by simp [lv_args, grc, gcat_i, gcat_l])
  rw [e1]
  exact w_X3_equalsHost_0 C hr a0 a1 _ _ _ _ _ _ hf I hl
def f_X6_hasOriginOf  (a0 : Option Nat) (a1 : Option Nat) : gM Int32 := gb (rI 5 0 a0) fun v1 => gb (rI 5 0 a1) fun v2 => if v1 = v2 then (gb (rR 5 4 a0) fun v3 => gb (rR 5 4 a1) fun v4 => gb (nn 2 v3) fun _ => gb (f_X3_equalsHost v3 v4) fun v5 => if v5 = 0 then (gz 0) else (gb (nn 5 a0) fun _ => gb (f_X6_portThatCounts a0) fun v6 => gb (nn 5 a1) fun _ => gb (f_X6_portThatCounts a1) fun v7 => if v6 = v7 then (gz 1) else (gz 0))) else (gz 0)
section S_X6_hasOriginOf
variable {G : gX} {p : Program} {l : Launch} {e : Env} {s : State} {m : MethodId} {args : Array Value} {below : List Frame} {meth : Method} {c : Code} {mc ms : Nat} {y : Int32 × gS}
set_option maxHeartbeats 4000000 in
set_option maxRecDepth 100000 in
theorem w_X6_hasOriginOf_0 (C : gC G p s m args meth c cX6_hasOriginOf 2 RX6) (hr : meth.sig.returnType = (some .boolean))  (a0 : Option Nat) (a1 : Option Nat) : gJ G p l e 4 86 mc ms s m args below meth c gri y 2 0 [(0, va_rf a0), (1, va_rf a1)] [] (f_X6_hasOriginOf  a0 a1) := by
  have hx := C.1
  have hb := C.2.1
  intro σ H locs cells slots ls hf I hl
  unfold f_X6_hasOriginOf at hf
  refine gw_aload_n hx hb dX6_hasOriginOf_0 rfl (lv_at hl 0 rfl) ?_
  refine gw_geti (k := 0) C I gcls_5 (by decide) rfl kw_46 dX6_hasOriginOf_1 hf (fun v1 hf => ?_)
  refine gw_aload_n hx hb dX6_hasOriginOf_4 rfl (lv_at hl 1 rfl) ?_
  refine gw_geti (k := 0) C I gcls_5 (by decide) rfl kw_46 dX6_hasOriginOf_5 hf (fun v2 hf => ?_)
  refine lv_icmp_ne (tgt := 40) hx hb dX6_hasOriginOf_8 (by decide) (fun hq => ?_) (fun hq => ?_)
  · have hf := giff hq hf
    refine lv_iconst (v := 0) hx hb dX6_hasOriginOf_40 kc_i_0 ?_
    exact gw_zret C I hr dX6_hasOriginOf_41 hf
  · have hf := gift hq hf
    refine gw_aload_n hx hb dX6_hasOriginOf_11 rfl (lv_at hl 0 rfl) ?_
    refine gw_getr (k := 4) C I gcls_5 (by decide) rfl kw_55 dX6_hasOriginOf_12 hf (fun v3 hf => ?_)
    refine gw_aload_n hx hb dX6_hasOriginOf_15 rfl (lv_at hl 1 rfl) ?_
    refine gw_getr (k := 4) C I gcls_5 (by decide) rfl kw_55 dX6_hasOriginOf_16 hf (fun v4 hf => ?_)
    refine gw_callV (rest := []) C I hl.1 gcls_2 (m_X3_equalsHost G l v3 v4) gl_RX6_99 gn_X3_equalsHost ⟨Nat.le_of_ble_eq_true rfl, Nat.le_of_ble_eq_true rfl⟩ rfl (gc4 (Nat.le_of_ble_eq_true rfl)) rfl dX6_hasOriginOf_19 hf (fun v5 σ H locs cells slots I hf => ?_)
    refine W.eq (g2 := F0 m 22 ls [.int v5]) rfl ?_
    refine lv_if_eq (tgt := 40) hx hb dX6_hasOriginOf_22 (by decide) (fun hq => ?_) (fun hq => ?_)
    · have hf := gift hq hf
      refine lv_iconst (v := 0) hx hb dX6_hasOriginOf_40 kc_i_0 ?_
      exact gw_zret C I hr dX6_hasOriginOf_41 hf
    · have hf := giff hq hf
      refine gw_aload_n hx hb dX6_hasOriginOf_25 rfl (lv_at hl 0 rfl) ?_
      refine gw_callV (rest := []) C I hl.1 gcls_5 (m_X6_portThatCounts G l a0) gl_RX6_103 gn_X6_portThatCounts ⟨Nat.le_of_ble_eq_true rfl, Nat.le_of_ble_eq_true rfl⟩ rfl (gc4 (Nat.le_of_ble_eq_true rfl)) rfl dX6_hasOriginOf_26 hf (fun v6 σ H locs cells slots I hf => ?_)
      refine W.eq (g2 := F0 m 29 ls [.int v6]) rfl ?_
      refine gw_aload_n hx hb dX6_hasOriginOf_29 rfl (lv_at hl 1 rfl) ?_
      refine gw_callV (rest := [.int v6]) C I hl.1 gcls_5 (m_X6_portThatCounts G l a1) gl_RX6_103 gn_X6_portThatCounts ⟨Nat.le_of_ble_eq_true rfl, Nat.le_of_ble_eq_true rfl⟩ rfl (gc4 (Nat.le_of_ble_eq_true rfl)) rfl dX6_hasOriginOf_30 hf (fun v7 σ H locs cells slots I hf => ?_)
      refine W.eq (g2 := F0 m 33 ls [.int v7, .int v6]) rfl ?_
      refine lv_icmp_ne (tgt := 40) hx hb dX6_hasOriginOf_33 (by decide) (fun hq => ?_) (fun hq => ?_)
      · have hf := giff hq hf
        refine lv_iconst (v := 0) hx hb dX6_hasOriginOf_40 kc_i_0 ?_
        exact gw_zret C I hr dX6_hasOriginOf_41 hf
      · have hf := gift hq hf
        refine lv_iconst (v := 1) hx hb dX6_hasOriginOf_36 kc_i_1 ?_
        refine lv_goto (tgt := 41) hx hb dX6_hasOriginOf_37 (by decide) ?_
        exact gw_zret C I hr dX6_hasOriginOf_41 hf
end S_X6_hasOriginOf
theorem m_X6_hasOriginOf (G : gX) (l : Launch) (a0 : Option Nat) (a1 : Option Nat) : gMet G l yX6_hasOriginOf cX6_hasOriginOf 2 (some .boolean) 4 86 [va_rf a0, va_rf a1] gri (f_X6_hasOriginOf a0 a1) := by
  refine gMet_of (by decide) ?_
  intro σ y p e s m below meth c mc ms hf C hr hnm I
  obtain ⟨ls, e1, hl⟩ := gentry m [va_rf a0, va_rf a1] 2 [(0, va_rf a0), (1, va_rf a1)] (by simp [lg_sl, grc, gcat_i, gcat_l]) (by simp [lv_args, grc, gcat_i, gcat_l])
  rw [e1]
  exact w_X6_hasOriginOf_0 C hr a0 a1 _ _ _ _ _ _ hf I hl
def f_X8_same  (a0 : Option Nat) (a1 : Int32) (a2 : Int32) : gM Int32 := gb (nn 7 a0) fun _ => gb (f_X8_recordAt a0 a1) fun v1 => gb (nn 7 a0) fun _ => gb (f_X8_recordAt a0 a2) fun v2 => if v1 = none then (gp (-2)) else (if v2 = none then (gp (-2)) else (gb (nn 5 v1) fun _ => gb (f_X6_hasOriginOf v1 v2) fun v3 => if v3 = 0 then (gp 0) else (gp 1)))
section S_X8_same
variable {G : gX} {p : Program} {l : Launch} {e : Env} {s : State} {m : MethodId} {args : Array Value} {below : List Frame} {meth : Method} {c : Code} {mc ms : Nat} {y : Int32 × gS}
set_option maxHeartbeats 4000000 in
set_option maxRecDepth 100000 in
theorem w_X8_same_0 (C : gC G p s m args meth c cX8_same 5 RX8) (hr : meth.sig.returnType = (some .int))  (a0 : Option Nat) (a1 : Int32) (a2 : Int32) : gJ G p l e 5 107 mc ms s m args below meth c gri y 5 0 [(0, va_rf a0), (1, .int a1), (2, .int a2)] [] (f_X8_same  a0 a1 a2) := by
  have hx := C.1
  have hb := C.2.1
  intro σ H locs cells slots ls hf I hl
  unfold f_X8_same at hf
  refine gw_aload_n hx hb dX8_same_0 rfl (lv_at hl 0 rfl) ?_
  refine lv_iload_n hx hb dX8_same_1 rfl (lv_at hl 1 rfl) ?_
  refine gw_callV (rest := []) C I hl.1 gcls_7 (m_X8_recordAt G l a0 a1) gl_RX8_69 gn_X8_recordAt ⟨Nat.le_of_ble_eq_true rfl, Nat.le_of_ble_eq_true rfl⟩ rfl (gc4 (Nat.le_of_ble_eq_true rfl)) rfl dX8_same_2 hf (fun v1 σ H locs cells slots I hf => ?_)
  refine W.eq (g2 := F0 m 5 ls [va_rf v1]) rfl ?_
  refine gw_astore_n (lv' := [(3, va_rf v1), (0, va_rf a0), (1, .int a1), (2, .int a2)]) hx hb dX8_same_5 rfl hl (by decide) rfl (fun ls hl => ?_)
  refine gw_aload_n hx hb dX8_same_6 rfl (lv_at hl 1 rfl) ?_
  refine lv_iload_n hx hb dX8_same_7 rfl (lv_at hl 3 rfl) ?_
  refine gw_callV (rest := []) C I hl.1 gcls_7 (m_X8_recordAt G l a0 a2) gl_RX8_69 gn_X8_recordAt ⟨Nat.le_of_ble_eq_true rfl, Nat.le_of_ble_eq_true rfl⟩ rfl (gc4 (Nat.le_of_ble_eq_true rfl)) rfl dX8_same_8 hf (fun v2 σ H locs cells slots I hf => ?_)
  refine W.eq (g2 := F0 m 11 ls [va_rf v2]) rfl ?_
  refine gw_astore (lv' := [(4, va_rf v2), (3, va_rf v1), (0, va_rf a0), (1, .int a1), (2, .int a2)]) hx hb dX8_same_11 hl (by decide) (by cases v1 <;> rfl) (fun ls hl => ?_)
  refine gw_aload_n hx hb dX8_same_13 rfl (lv_at hl 1 rfl) ?_
  refine gw_ifnull (tgt := 22) hx hb dX8_same_14 (by decide) (fun hq => ?_) (fun hq => ?_)
  · have hf := gift hq hf
    refine lv_bipush (v := (-2)) hx hb dX8_same_22 kc_b_m2 ?_
    exact gw_iret C I hr dX8_same_24 hf
  · have hf := giff hq hf
    refine gw_aload hx hb dX8_same_17 (lv_at hl 0 rfl) ?_
    refine gw_ifnonnull (tgt := 25) hx hb dX8_same_19 (by decide) (fun hq => ?_) (fun hq => ?_)
    · have hf := giff hq hf
      refine gw_aload_n hx hb dX8_same_25 rfl (lv_at hl 1 rfl) ?_
      refine gw_aload hx hb dX8_same_26 (lv_at hl 0 rfl) ?_
      refine gw_callV (rest := []) C I hl.1 gcls_5 (m_X6_hasOriginOf G l v1 v2) gl_RX8_117 gn_X6_hasOriginOf ⟨Nat.le_of_ble_eq_true rfl, Nat.le_of_ble_eq_true rfl⟩ rfl (gc4 (Nat.le_of_ble_eq_true rfl)) rfl dX8_same_28 hf (fun v3 σ H locs cells slots I hf => ?_)
      refine W.eq (g2 := F0 m 31 ls [.int v3]) rfl ?_
      refine lv_if_eq (tgt := 38) hx hb dX8_same_31 (by decide) (fun hq => ?_) (fun hq => ?_)
      · have hf := gift hq hf
        refine lv_iconst (v := 0) hx hb dX8_same_38 kc_i_0 ?_
        exact gw_iret C I hr dX8_same_39 hf
      · have hf := giff hq hf
        refine lv_iconst (v := 1) hx hb dX8_same_34 kc_i_1 ?_
        refine lv_goto (tgt := 39) hx hb dX8_same_35 (by decide) ?_
        exact gw_iret C I hr dX8_same_39 hf
    · have hf := gift hq hf
      refine lv_bipush (v := (-2)) hx hb dX8_same_22 kc_b_m2 ?_
      exact gw_iret C I hr dX8_same_24 hf
end S_X8_same
theorem m_X8_same (G : gX) (l : Launch) (a0 : Option Nat) (a1 : Int32) (a2 : Int32) : gMet G l yX8_same cX8_same 5 (some .int) 5 107 [va_rf a0, .int a1, .int a2] gri (f_X8_same a0 a1 a2) := by
  refine gMet_of (by decide) ?_
  intro σ y p e s m below meth c mc ms hf C hr hnm I
  obtain ⟨ls, e1, hl⟩ := gentry m [va_rf a0, .int a1, .int a2] 5 [(0, va_rf a0), (1, .int a1), (2, .int a2)] (by simp [lg_sl, grc, gcat_i, gcat_l]) (by simp [lv_args, grc, gcat_i, gcat_l])
  rw [e1]
  exact w_X8_same_0 C hr a0 a1 a2 _ _ _ _ _ _ hf I hl
def f_X8_hearHost  (a0 : Option Nat) : gM Int32 := gb (rR 7 4 a0) fun v1 => gb (rR 7 0 a0) fun v2 => gb (rR 7 0 a0) fun v3 => gb (rI 4 1 v3) fun v4 => gb (rR 7 3 a0) fun v5 => gb (nn 3 v1) fun _ => gb (f_X4_readHost v1 v2 0 v4 v5) fun v6 => gb (rR 7 0 a0) fun v7 => gb (nn 4 v7) fun _ => gb (f_X5_cutTo v7 0) fun _ => gp v6
section S_X8_hearHost
variable {G : gX} {p : Program} {l : Launch} {e : Env} {s : State} {m : MethodId} {args : Array Value} {below : List Frame} {meth : Method} {c : Code} {mc ms : Nat} {y : Int32 × gS}
set_option maxHeartbeats 4000000 in
set_option maxRecDepth 100000 in
theorem w_X8_hearHost_0 (C : gC G p s m args meth c cX8_hearHost 2 RX8) (hr : meth.sig.returnType = (some .int))  (a0 : Option Nat) : gJ G p l e 9 212 mc ms s m args below meth c gri y 2 0 [(0, va_rf a0)] [] (f_X8_hearHost  a0) := by
  have hx := C.1
  have hb := C.2.1
  intro σ H locs cells slots ls hf I hl
  unfold f_X8_hearHost at hf
  refine gw_aload_n hx hb dX8_hearHost_0 rfl (lv_at hl 0 rfl) ?_
  refine gw_getr (k := 4) C I gcls_7 (by decide) rfl kw_75 dX8_hearHost_1 hf (fun v1 hf => ?_)
  refine gw_aload_n hx hb dX8_hearHost_4 rfl (lv_at hl 0 rfl) ?_
  refine gw_getr (k := 0) C I gcls_7 (by decide) rfl kw_65 dX8_hearHost_5 hf (fun v2 hf => ?_)
  refine lv_iconst (v := 0) hx hb dX8_hearHost_8 kc_i_0 ?_
  refine gw_aload_n hx hb dX8_hearHost_9 rfl (lv_at hl 0 rfl) ?_
  refine gw_getr (k := 0) C I gcls_7 (by decide) rfl kw_65 dX8_hearHost_10 hf (fun v3 hf => ?_)
  refine gw_geti (k := 1) C I gcls_4 (by decide) rfl kw_99 dX8_hearHost_13 hf (fun v4 hf => ?_)
  refine gw_aload_n hx hb dX8_hearHost_16 rfl (lv_at hl 0 rfl) ?_
  refine gw_getr (k := 3) C I gcls_7 (by decide) rfl kw_70 dX8_hearHost_17 hf (fun v5 hf => ?_)
  refine gw_callV (rest := []) C I hl.1 gcls_3 (m_X4_readHost G l v1 v2 0 v4 v5) gl_RX8_150 gn_X4_readHost ⟨Nat.le_of_ble_eq_true rfl, Nat.le_of_ble_eq_true rfl⟩ rfl (gc4 (Nat.le_of_ble_eq_true rfl)) rfl dX8_hearHost_20 hf (fun v6 σ H locs cells slots I hf => ?_)
  refine W.eq (g2 := F0 m 23 ls [.int v6]) rfl ?_
  refine lv_istore_n (lv' := [(1, .int v6), (0, va_rf a0)]) hx hb dX8_hearHost_23 rfl hl (by decide) (by cases a0 <;> rfl) (fun ls hl => ?_)
  refine gw_aload_n hx hb dX8_hearHost_24 rfl (lv_at hl 1 rfl) ?_
  refine gw_getr (k := 0) C I gcls_7 (by decide) rfl kw_65 dX8_hearHost_25 hf (fun v7 hf => ?_)
  refine lv_iconst (v := 0) hx hb dX8_hearHost_28 kc_i_0 ?_
  refine gw_callV (rest := []) C I hl.1 gcls_4 (m_X5_cutTo G l v7 0) gl_RX8_66 gn_X5_cutTo ⟨Nat.le_of_ble_eq_true rfl, Nat.le_of_ble_eq_true rfl⟩ rfl (gc4 (Nat.le_of_ble_eq_true rfl)) rfl dX8_hearHost_29 hf (fun _ σ H locs cells slots I hf => ?_)
  refine W.eq (g2 := F0 m 32 ls []) rfl ?_
  refine lv_iload_n hx hb dX8_hearHost_32 rfl (lv_at hl 0 rfl) ?_
  exact gw_iret C I hr dX8_hearHost_33 hf
end S_X8_hearHost
theorem m_X8_hearHost (G : gX) (l : Launch) (a0 : Option Nat) : gMet G l yX8_hearHost cX8_hearHost 2 (some .int) 9 212 [va_rf a0] gri (f_X8_hearHost a0) := by
  refine gMet_of (by decide) ?_
  intro σ y p e s m below meth c mc ms hf C hr hnm I
  obtain ⟨ls, e1, hl⟩ := gentry m [va_rf a0] 2 [(0, va_rf a0)] (by simp [lg_sl, grc, gcat_i, gcat_l]) (by simp [lv_args, grc, gcat_i, gcat_l])
  rw [e1]
  exact w_X8_hearHost_0 C hr a0 _ _ _ _ _ _ hf I hl
def f_X3_isName  (a0 : Option Nat) : gM Int32 := gb (rR 2 0 a0) fun v1 => gb (rI 0 0 v1) fun v2 => if v2 = 0 then (gz 1) else (gz 0)
section S_X3_isName
variable {G : gX} {p : Program} {l : Launch} {e : Env} {s : State} {m : MethodId} {args : Array Value} {below : List Frame} {meth : Method} {c : Code} {mc ms : Nat} {y : Int32 × gS}
set_option maxHeartbeats 4000000 in
set_option maxRecDepth 100000 in
theorem w_X3_isName_0 (C : gC G p s m args meth c cX3_isName 1 RX3) (hr : meth.sig.returnType = (some .boolean))  (a0 : Option Nat) : gJ G p l e 0 0 mc ms s m args below meth c gri y 1 0 [(0, va_rf a0)] [] (f_X3_isName  a0) := by
  have hx := C.1
  have hb := C.2.1
  intro σ H locs cells slots ls hf I hl
  unfold f_X3_isName at hf
  refine gw_aload_n hx hb dX3_isName_0 rfl (lv_at hl 0 rfl) ?_
  refine gw_getr (k := 0) C I gcls_2 (by decide) rfl kw_14 dX3_isName_1 hf (fun v1 hf => ?_)
  refine gw_geti (k := 0) C I gcls_0 (by decide) rfl kw_154 dX3_isName_4 hf (fun v2 hf => ?_)
  refine lv_if_ne (tgt := 14) hx hb dX3_isName_7 (by decide) (fun hq => ?_) (fun hq => ?_)
  · have hf := giff hq hf
    refine lv_iconst (v := 0) hx hb dX3_isName_14 kc_i_0 ?_
    exact gw_zret C I hr dX3_isName_15 hf
  · have hf := gift hq hf
    refine lv_iconst (v := 1) hx hb dX3_isName_10 kc_i_1 ?_
    refine lv_goto (tgt := 15) hx hb dX3_isName_11 (by decide) ?_
    exact gw_zret C I hr dX3_isName_15 hf
end S_X3_isName
theorem m_X3_isName (G : gX) (l : Launch) (a0 : Option Nat) : gMet G l yX3_isName cX3_isName 1 (some .boolean) 0 0 [va_rf a0] gri (f_X3_isName a0) := by
  refine gMet_of (by decide) ?_
  intro σ y p e s m below meth c mc ms hf C hr hnm I
  obtain ⟨ls, e1, hl⟩ := gentry m [va_rf a0] 1 [(0, va_rf a0)] (by simp [lg_sl, grc, gcat_i, gcat_l]) (by simp [lv_args, grc, gcat_i, gcat_l])
  rw [e1]
  exact w_X3_isName_0 C hr a0 _ _ _ _ _ _ hf I hl
def f_X2_addHost  (a0 : Option Nat) (a1 : Option Nat) (a2 : Int32) : gM Int32 := gb (rI 1 2 a0) fun v1 => if v1 < 12 then (gb (nO 2) fun v2 => gb (nn 2 v2) fun _ => gb (f_X3_init v2) fun _ => gb (nn 2 v2) fun _ => gb (f_X3_take v2 a1) fun _ => gb (rR 1 0 a0) fun v3 => gb (rI 1 2 a0) fun v4 => gb (sR 4 2 v3 v4 v2) fun _ => gb (rR 1 1 a0) fun v5 => gb (rI 1 2 a0) fun v6 => gb (sI 2 v5 v6 a2) fun _ => gb (rI 1 2 a0) fun v7 => gb (wI 1 2 a0 (v7 + 1)) fun _ => gb (rI 1 2 a0) fun v8 => gp v8) else (gp (-3))
section S_X2_addHost
variable {G : gX} {p : Program} {l : Launch} {e : Env} {s : State} {m : MethodId} {args : Array Value} {below : List Frame} {meth : Method} {c : Code} {mc ms : Nat} {y : Int32 × gS}
set_option maxHeartbeats 4000000 in
set_option maxRecDepth 100000 in
theorem w_X2_addHost_0 (C : gC G p s m args meth c cX2_addHost 4 RX2) (hr : meth.sig.returnType = (some .int))  (a0 : Option Nat) (a1 : Option Nat) (a2 : Int32) : gJ G p l e 5 127 mc ms s m args below meth c gri y 4 0 [(0, va_rf a0), (1, va_rf a1), (2, .int a2)] [] (f_X2_addHost  a0 a1 a2) := by
  have hx := C.1
  have hb := C.2.1
  intro σ H locs cells slots ls hf I hl
  unfold f_X2_addHost at hf
  refine gw_aload_n hx hb dX2_addHost_0 rfl (lv_at hl 0 rfl) ?_
  refine gw_geti (k := 2) C I gcls_1 (by decide) rfl kw_36 dX2_addHost_1 hf (fun v1 hf => ?_)
  refine lv_bipush (v := 12) hx hb dX2_addHost_4 kc_b_12 ?_
  refine lv_icmp_lt (tgt := 12) hx hb dX2_addHost_6 (by decide) (fun hq => ?_) (fun hq => ?_)
  · have hf := gift hq hf
    refine gw_new C I gcls_2 gdf_2 kw_32 dX2_addHost_12 hf (fun v2 σ H locs cells slots I hf => ?_)
    refine lv_dup hx hb dX2_addHost_15 (grc _) ?_
    refine gw_callN (rest := [va_rf v2]) (ci := 2) C I hl.1 (m_X3_init G l v2) (host := "UrlGate") (by decide) ⟨kw_52, kw_53⟩ ⟨by decide, by decide, rfl⟩ ⟨rfl, kw_54⟩ ⟨Nat.le_of_ble_eq_true rfl, Nat.le_of_ble_eq_true rfl⟩ rfl (gc4 (Nat.le_of_ble_eq_true rfl)) rfl dX2_addHost_16 hf (fun _ σ H locs cells slots I hf => ?_)
    refine W.eq (g2 := F0 m 19 ls [va_rf v2]) rfl ?_
    refine gw_astore_n (lv' := [(3, va_rf v2), (0, va_rf a0), (1, va_rf a1), (2, .int a2)]) hx hb dX2_addHost_19 rfl hl (by decide) rfl (fun ls hl => ?_)
    refine gw_aload_n hx hb dX2_addHost_20 rfl (lv_at hl 0 rfl) ?_
    refine gw_aload_n hx hb dX2_addHost_21 rfl (lv_at hl 2 rfl) ?_
    refine gw_callV (rest := []) C I hl.1 gcls_2 (m_X3_take G l v2 a1) gl_RX2_51 gn_X3_take ⟨Nat.le_of_ble_eq_true rfl, Nat.le_of_ble_eq_true rfl⟩ rfl (gc4 (Nat.le_of_ble_eq_true rfl)) rfl dX2_addHost_22 hf (fun _ σ H locs cells slots I hf => ?_)
    refine W.eq (g2 := F0 m 25 ls []) rfl ?_
    refine gw_aload_n hx hb dX2_addHost_25 rfl (lv_at hl 1 rfl) ?_
    refine gw_getr (k := 0) C I gcls_1 (by decide) rfl kw_33 dX2_addHost_26 hf (fun v3 hf => ?_)
    refine gw_aload_n hx hb dX2_addHost_29 rfl (lv_at hl 1 rfl) ?_
    refine gw_geti (k := 2) C I gcls_1 (by decide) rfl kw_36 dX2_addHost_30 hf (fun v4 hf => ?_)
    refine gw_aload_n hx hb dX2_addHost_33 rfl (lv_at hl 0 rfl) ?_
    refine gw_aast (t := 4) C I gcls_2 (by decide) rfl dX2_addHost_34 hf (fun σ H locs I hf => ?_)
    refine gw_aload_n hx hb dX2_addHost_35 rfl (lv_at hl 1 rfl) ?_
    refine gw_getr (k := 1) C I gcls_1 (by decide) rfl kw_35 dX2_addHost_36 hf (fun v5 hf => ?_)
    refine gw_aload_n hx hb dX2_addHost_39 rfl (lv_at hl 1 rfl) ?_
    refine gw_geti (k := 2) C I gcls_1 (by decide) rfl kw_36 dX2_addHost_40 hf (fun v6 hf => ?_)
    refine lv_iload_n hx hb dX2_addHost_43 rfl (lv_at hl 3 rfl) ?_
    refine gw_zast C I dX2_addHost_44 hf (fun σ H locs I hf => ?_)
    refine gw_aload_n hx hb dX2_addHost_45 rfl (lv_at hl 1 rfl) ?_
    refine lv_dup hx hb dX2_addHost_46 (grc _) ?_
    refine gw_geti (k := 2) C I gcls_1 (by decide) rfl kw_36 dX2_addHost_47 hf (fun v7 hf => ?_)
    refine lv_iconst (v := 1) hx hb dX2_addHost_50 kc_i_1 ?_
    refine lv_iadd hx hb dX2_addHost_51 ?_
    refine gw_puti (k := 2) C I gcls_1 (by decide) rfl kw_36 (Or.inl rfl) (by decide +kernel) dX2_addHost_52 hf (fun σ H locs I hf => ?_)
    refine gw_aload_n hx hb dX2_addHost_55 rfl (lv_at hl 1 rfl) ?_
    refine gw_geti (k := 2) C I gcls_1 (by decide) rfl kw_36 dX2_addHost_56 hf (fun v8 hf => ?_)
    exact gw_iret C I hr dX2_addHost_59 hf
  · have hf := giff hq hf
    refine lv_bipush (v := (-3)) hx hb dX2_addHost_9 kc_b_m3 ?_
    exact gw_iret C I hr dX2_addHost_11 hf
end S_X2_addHost
theorem m_X2_addHost (G : gX) (l : Launch) (a0 : Option Nat) (a1 : Option Nat) (a2 : Int32) : gMet G l yX2_addHost cX2_addHost 4 (some .int) 5 127 [va_rf a0, va_rf a1, .int a2] gri (f_X2_addHost a0 a1 a2) := by
  refine gMet_of (by decide) ?_
  intro σ y p e s m below meth c mc ms hf C hr hnm I
  obtain ⟨ls, e1, hl⟩ := gentry m [va_rf a0, va_rf a1, .int a2] 4 [(0, va_rf a0), (1, va_rf a1), (2, .int a2)] (by simp [lg_sl, grc, gcat_i, gcat_l]) (by simp [lv_args, grc, gcat_i, gcat_l])
  rw [e1]
  exact w_X2_addHost_0 C hr a0 a1 a2 _ _ _ _ _ _ hf I hl
def f_X8_list_28  (x0 : Option Nat) (x1 : Int32) : gM Int32 := gb (rR 7 6 x0) fun v1 => gb (rR 7 3 x0) fun v2 => gb (nn 1 v1) fun _ => gb (f_X2_addHost v1 v2 x1) fun v3 => gp v3
def f_X8_list  (a0 : Option Nat) (a1 : Int32) : gM Int32 := gb (nn 7 a0) fun _ => gb (f_X8_hearHost a0) fun v1 => if v1 = 0 then (if a1 = 0 then (f_X8_list_28  a0 a1) else (gb (rR 7 3 a0) fun v2 => gb (nn 2 v2) fun _ => gb (f_X3_isName v2) fun v3 => if v3 = 0 then (gp (-2)) else (f_X8_list_28  a0 a1))) else (gp v1)
section S_X8_list
variable {G : gX} {p : Program} {l : Launch} {e : Env} {s : State} {m : MethodId} {args : Array Value} {below : List Frame} {meth : Method} {c : Code} {mc ms : Nat} {y : Int32 × gS}
set_option maxHeartbeats 4000000 in
set_option maxRecDepth 100000 in
theorem w_X8_list_28 (C : gC G p s m args meth c cX8_list 3 RX8) (hr : meth.sig.returnType = (some .int))  (x0 : Option Nat) (x1 : Int32) : gJ G p l e 10 233 mc ms s m args below meth c gri y 3 28 [(0, va_rf x0), (1, .int x1)] [] (f_X8_list_28  x0 x1) := by
  have hx := C.1
  have hb := C.2.1
  intro σ H locs cells slots ls hf I hl
  unfold f_X8_list_28 at hf
  refine gw_aload_n hx hb dX8_list_28 rfl (lv_at hl 0 rfl) ?_
  refine gw_getr (k := 6) C I gcls_7 (by decide) rfl kw_85 dX8_list_29 hf (fun v1 hf => ?_)
  refine gw_aload_n hx hb dX8_list_32 rfl (lv_at hl 0 rfl) ?_
  refine gw_getr (k := 3) C I gcls_7 (by decide) rfl kw_70 dX8_list_33 hf (fun v2 hf => ?_)
  refine lv_iload_n hx hb dX8_list_36 rfl (lv_at hl 1 rfl) ?_
  refine gw_callV (rest := []) C I hl.1 gcls_1 (m_X2_addHost G l v1 v2 x1) gl_RX8_128 gn_X2_addHost ⟨Nat.le_of_ble_eq_true rfl, Nat.le_of_ble_eq_true rfl⟩ rfl (gc4 (Nat.le_of_ble_eq_true rfl)) rfl dX8_list_37 hf (fun v3 σ H locs cells slots I hf => ?_)
  refine W.eq (g2 := F0 m 40 ls [.int v3]) rfl ?_
  exact gw_iret C I hr dX8_list_40 hf
set_option maxHeartbeats 4000000 in
set_option maxRecDepth 100000 in
theorem w_X8_list_0 (C : gC G p s m args meth c cX8_list 3 RX8) (hr : meth.sig.returnType = (some .int))  (a0 : Option Nat) (a1 : Int32) : gJ G p l e 10 233 mc ms s m args below meth c gri y 3 0 [(0, va_rf a0), (1, .int a1)] [] (f_X8_list  a0 a1) := by
  have hx := C.1
  have hb := C.2.1
  intro σ H locs cells slots ls hf I hl
  unfold f_X8_list at hf
  refine gw_aload_n hx hb dX8_list_0 rfl (lv_at hl 0 rfl) ?_
  refine gw_callV (rest := []) C I hl.1 gcls_7 (m_X8_hearHost G l a0) gl_RX8_121 gn_X8_hearHost ⟨Nat.le_of_ble_eq_true rfl, Nat.le_of_ble_eq_true rfl⟩ rfl (gc4 (Nat.le_of_ble_eq_true rfl)) rfl dX8_list_1 hf (fun v1 σ H locs cells slots I hf => ?_)
  refine W.eq (g2 := F0 m 4 ls [.int v1]) rfl ?_
  refine lv_istore_n (lv' := [(2, .int v1), (0, va_rf a0), (1, .int a1)]) hx hb dX8_list_4 rfl hl (by decide) rfl (fun ls hl => ?_)
  refine lv_iload_n hx hb dX8_list_5 rfl (lv_at hl 0 rfl) ?_
  refine lv_if_eq (tgt := 11) hx hb dX8_list_6 (by decide) (fun hq => ?_) (fun hq => ?_)
  · have hf := gift hq hf
    refine lv_iload_n hx hb dX8_list_11 rfl (lv_at hl 2 rfl) ?_
    refine lv_if_eq (tgt := 28) hx hb dX8_list_12 (by decide) (fun hq => ?_) (fun hq => ?_)
    · have hf := gift hq hf
      exact w_X8_list_28 C hr  a0 a1 _ _ _ _ _ _ hf I (lv_sub hl [1, 2] rfl)
    · have hf := giff hq hf
      refine gw_aload_n hx hb dX8_list_15 rfl (lv_at hl 1 rfl) ?_
      refine gw_getr (k := 3) C I gcls_7 (by decide) rfl kw_70 dX8_list_16 hf (fun v2 hf => ?_)
      refine gw_callV (rest := []) C I hl.1 gcls_2 (m_X3_isName G l v2) gl_RX8_124 gn_X3_isName ⟨Nat.le_of_ble_eq_true rfl, Nat.le_of_ble_eq_true rfl⟩ rfl (gc4 (Nat.le_of_ble_eq_true rfl)) rfl dX8_list_19 hf (fun v3 σ H locs cells slots I hf => ?_)
      refine W.eq (g2 := F0 m 22 ls [.int v3]) rfl ?_
      refine lv_if_ne (tgt := 28) hx hb dX8_list_22 (by decide) (fun hq => ?_) (fun hq => ?_)
      · have hf := giff hq hf
        exact w_X8_list_28 C hr  a0 a1 _ _ _ _ _ _ hf I (lv_sub hl [1, 2] rfl)
      · have hf := gift hq hf
        refine lv_bipush (v := (-2)) hx hb dX8_list_25 kc_b_m2 ?_
        exact gw_iret C I hr dX8_list_27 hf
  · have hf := giff hq hf
    refine lv_iload_n hx hb dX8_list_9 rfl (lv_at hl 0 rfl) ?_
    exact gw_iret C I hr dX8_list_10 hf
end S_X8_list
theorem m_X8_list (G : gX) (l : Launch) (a0 : Option Nat) (a1 : Int32) : gMet G l yX8_list cX8_list 3 (some .int) 10 233 [va_rf a0, .int a1] gri (f_X8_list a0 a1) := by
  refine gMet_of (by decide) ?_
  intro σ y p e s m below meth c mc ms hf C hr hnm I
  obtain ⟨ls, e1, hl⟩ := gentry m [va_rf a0, .int a1] 3 [(0, va_rf a0), (1, .int a1)] (by simp [lg_sl, grc, gcat_i, gcat_l]) (by simp [lv_args, grc, gcat_i, gcat_l])
  rw [e1]
  exact w_X8_list_0 C hr a0 a1 _ _ _ _ _ _ hf I hl
def f_X2_addAnswer  (a0 : Option Nat) (a1 : Option Nat) (a2 : Int32) (a3 : Int32) (a4 : Int32) (a5 : Int32) (a6 : Int32) : gM Int32 := gb (rI 1 5 a0) fun v1 => if v1 < 16 then (gb (nO 4) fun v2 => gb (nn 4 v2) fun _ => gb (f_X5_init v2) fun _ => gb (nn 4 v2) fun _ => gb (f_X5_take v2 a1) fun _ => gb (rR 1 3 a0) fun v3 => gb (rI 1 5 a0) fun v4 => gb (sR 5 4 v3 v4 v2) fun _ => gb (nO 0) fun v5 => gb (nn 0 v5) fun _ => gb (f_X0_init v5) fun _ => gb (nn 0 v5) fun _ => gb (f_X0_setTo v5 a2 a3 a4 a5 a6) fun _ => gb (rR 1 4 a0) fun v6 => gb (rI 1 5 a0) fun v7 => gb (sR 3 0 v6 v7 v5) fun _ => gb (rI 1 5 a0) fun v8 => gb (wI 1 5 a0 (v8 + 1)) fun _ => gb (rI 1 5 a0) fun v9 => gp v9) else (gp (-3))
section S_X2_addAnswer
variable {G : gX} {p : Program} {l : Launch} {e : Env} {s : State} {m : MethodId} {args : Array Value} {below : List Frame} {meth : Method} {c : Code} {mc ms : Nat} {y : Int32 × gS}
set_option maxHeartbeats 4000000 in
set_option maxRecDepth 100000 in
theorem w_X2_addAnswer_0 (C : gC G p s m args meth c cX2_addAnswer 9 RX2) (hr : meth.sig.returnType = (some .int))  (a0 : Option Nat) (a1 : Option Nat) (a2 : Int32) (a3 : Int32) (a4 : Int32) (a5 : Int32) (a6 : Int32) : gJ G p l e 4 106 mc ms s m args below meth c gri y 9 0 [(0, va_rf a0), (1, va_rf a1), (2, .int a2), (3, .int a3), (4, .int a4), (5, .int a5), (6, .int a6)] [] (f_X2_addAnswer  a0 a1 a2 a3 a4 a5 a6) := by
  have hx := C.1
  have hb := C.2.1
  intro σ H locs cells slots ls hf I hl
  unfold f_X2_addAnswer at hf
  refine gw_aload_n hx hb dX2_addAnswer_0 rfl (lv_at hl 0 rfl) ?_
  refine gw_geti (k := 5) C I gcls_1 (by decide) rfl kw_41 dX2_addAnswer_1 hf (fun v1 hf => ?_)
  refine lv_bipush (v := 16) hx hb dX2_addAnswer_4 kc_b_16 ?_
  refine lv_icmp_lt (tgt := 12) hx hb dX2_addAnswer_6 (by decide) (fun hq => ?_) (fun hq => ?_)
  · have hf := gift hq hf
    refine gw_new C I gcls_4 gdf_4 kw_37 dX2_addAnswer_12 hf (fun v2 σ H locs cells slots I hf => ?_)
    refine lv_dup hx hb dX2_addAnswer_15 (grc _) ?_
    refine gw_callN (rest := [va_rf v2]) (ci := 4) C I hl.1 (m_X5_init G l v2) (host := "UrlGate") (by decide) ⟨kw_16, kw_17⟩ ⟨by decide, by decide, rfl⟩ ⟨rfl, kw_18⟩ ⟨Nat.le_of_ble_eq_true rfl, Nat.le_of_ble_eq_true rfl⟩ rfl (gc4 (Nat.le_of_ble_eq_true rfl)) rfl dX2_addAnswer_16 hf (fun _ σ H locs cells slots I hf => ?_)
    refine W.eq (g2 := F0 m 19 ls [va_rf v2]) rfl ?_
    refine gw_astore (lv' := [(7, va_rf v2), (0, va_rf a0), (1, va_rf a1), (2, .int a2), (3, .int a3), (4, .int a4), (5, .int a5), (6, .int a6)]) hx hb dX2_addAnswer_19 hl (by decide) rfl (fun ls hl => ?_)
    refine gw_aload hx hb dX2_addAnswer_21 (lv_at hl 0 rfl) ?_
    refine gw_aload_n hx hb dX2_addAnswer_23 rfl (lv_at hl 2 rfl) ?_
    refine gw_callV (rest := []) C I hl.1 gcls_4 (m_X5_take G l v2 a1) gl_RX2_56 gn_X5_take ⟨Nat.le_of_ble_eq_true rfl, Nat.le_of_ble_eq_true rfl⟩ rfl (gc4 (Nat.le_of_ble_eq_true rfl)) rfl dX2_addAnswer_24 hf (fun _ σ H locs cells slots I hf => ?_)
    refine W.eq (g2 := F0 m 27 ls []) rfl ?_
    refine gw_aload_n hx hb dX2_addAnswer_27 rfl (lv_at hl 1 rfl) ?_
    refine gw_getr (k := 3) C I gcls_1 (by decide) rfl kw_38 dX2_addAnswer_28 hf (fun v3 hf => ?_)
    refine gw_aload_n hx hb dX2_addAnswer_31 rfl (lv_at hl 1 rfl) ?_
    refine gw_geti (k := 5) C I gcls_1 (by decide) rfl kw_41 dX2_addAnswer_32 hf (fun v4 hf => ?_)
    refine gw_aload hx hb dX2_addAnswer_35 (lv_at hl 0 rfl) ?_
    refine gw_aast (t := 5) C I gcls_4 (by decide) rfl dX2_addAnswer_37 hf (fun σ H locs I hf => ?_)
    refine gw_new C I gcls_0 gdf_0 kw_39 dX2_addAnswer_38 hf (fun v5 σ H locs cells slots I hf => ?_)
    refine lv_dup hx hb dX2_addAnswer_41 (grc _) ?_
    refine gw_callN (rest := [va_rf v5]) (ci := 0) C I hl.1 (m_X0_init G l v5) (host := "UrlGate") (by decide) ⟨kw_11, kw_12⟩ ⟨by decide, by decide, rfl⟩ ⟨rfl, kw_13⟩ ⟨Nat.le_of_ble_eq_true rfl, Nat.le_of_ble_eq_true rfl⟩ rfl (gc4 (Nat.le_of_ble_eq_true rfl)) rfl dX2_addAnswer_42 hf (fun _ σ H locs cells slots I hf => ?_)
    refine W.eq (g2 := F0 m 45 ls [va_rf v5]) rfl ?_
    refine gw_astore (lv' := [(8, va_rf v5), (7, va_rf v2), (0, va_rf a0), (1, va_rf a1), (2, .int a2), (3, .int a3), (4, .int a4), (5, .int a5), (6, .int a6)]) hx hb dX2_addAnswer_45 hl (by decide) (by cases v2 <;> rfl) (fun ls hl => ?_)
    refine gw_aload hx hb dX2_addAnswer_47 (lv_at hl 0 rfl) ?_
    refine lv_iload_n hx hb dX2_addAnswer_49 rfl (lv_at hl 4 rfl) ?_
    refine lv_iload_n hx hb dX2_addAnswer_50 rfl (lv_at hl 5 rfl) ?_
    refine lv_iload hx hb dX2_addAnswer_51 (lv_at hl 6 rfl) ?_
    refine lv_iload hx hb dX2_addAnswer_53 (lv_at hl 7 rfl) ?_
    refine lv_iload hx hb dX2_addAnswer_55 (lv_at hl 8 rfl) ?_
    refine gw_callV (rest := []) C I hl.1 gcls_0 (m_X0_setTo G l v5 a2 a3 a4 a5 a6) gl_RX2_60 gn_X0_setTo ⟨Nat.le_of_ble_eq_true rfl, Nat.le_of_ble_eq_true rfl⟩ rfl (gc4 (Nat.le_of_ble_eq_true rfl)) rfl dX2_addAnswer_57 hf (fun _ σ H locs cells slots I hf => ?_)
    refine W.eq (g2 := F0 m 60 ls []) rfl ?_
    refine gw_aload_n hx hb dX2_addAnswer_60 rfl (lv_at hl 2 rfl) ?_
    refine gw_getr (k := 4) C I gcls_1 (by decide) rfl kw_40 dX2_addAnswer_61 hf (fun v6 hf => ?_)
    refine gw_aload_n hx hb dX2_addAnswer_64 rfl (lv_at hl 2 rfl) ?_
    refine gw_geti (k := 5) C I gcls_1 (by decide) rfl kw_41 dX2_addAnswer_65 hf (fun v7 hf => ?_)
    refine gw_aload hx hb dX2_addAnswer_68 (lv_at hl 0 rfl) ?_
    refine gw_aast (t := 3) C I gcls_0 (by decide) rfl dX2_addAnswer_70 hf (fun σ H locs I hf => ?_)
    refine gw_aload_n hx hb dX2_addAnswer_71 rfl (lv_at hl 2 rfl) ?_
    refine lv_dup hx hb dX2_addAnswer_72 (grc _) ?_
    refine gw_geti (k := 5) C I gcls_1 (by decide) rfl kw_41 dX2_addAnswer_73 hf (fun v8 hf => ?_)
    refine lv_iconst (v := 1) hx hb dX2_addAnswer_76 kc_i_1 ?_
    refine lv_iadd hx hb dX2_addAnswer_77 ?_
    refine gw_puti (k := 5) C I gcls_1 (by decide) rfl kw_41 (Or.inl rfl) (by decide +kernel) dX2_addAnswer_78 hf (fun σ H locs I hf => ?_)
    refine gw_aload_n hx hb dX2_addAnswer_81 rfl (lv_at hl 2 rfl) ?_
    refine gw_geti (k := 5) C I gcls_1 (by decide) rfl kw_41 dX2_addAnswer_82 hf (fun v9 hf => ?_)
    exact gw_iret C I hr dX2_addAnswer_85 hf
  · have hf := giff hq hf
    refine lv_bipush (v := (-3)) hx hb dX2_addAnswer_9 kc_b_m3 ?_
    exact gw_iret C I hr dX2_addAnswer_11 hf
end S_X2_addAnswer
theorem m_X2_addAnswer (G : gX) (l : Launch) (a0 : Option Nat) (a1 : Option Nat) (a2 : Int32) (a3 : Int32) (a4 : Int32) (a5 : Int32) (a6 : Int32) : gMet G l yX2_addAnswer cX2_addAnswer 9 (some .int) 4 106 [va_rf a0, va_rf a1, .int a2, .int a3, .int a4, .int a5, .int a6] gri (f_X2_addAnswer a0 a1 a2 a3 a4 a5 a6) := by
  refine gMet_of (by decide) ?_
  intro σ y p e s m below meth c mc ms hf C hr hnm I
  obtain ⟨ls, e1, hl⟩ := gentry m [va_rf a0, va_rf a1, .int a2, .int a3, .int a4, .int a5, .int a6] 9 [(0, va_rf a0), (1, va_rf a1), (2, .int a2), (3, .int a3), (4, .int a4), (5, .int a5), (6, .int a6)] (by simp [lg_sl, grc, gcat_i, gcat_l]) (by simp [lv_args, grc, gcat_i, gcat_l])
  rw [e1]
  exact w_X2_addAnswer_0 C hr a0 a1 a2 a3 a4 a5 a6 _ _ _ _ _ _ hf I hl
