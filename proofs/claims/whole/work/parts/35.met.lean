theorem dX9_range_0 : decode cX9_range 0 = .ok (.iload_n 1, 1) := by decide +kernel
theorem dX9_range_1 : decode cX9_range 1 = .ok (.iconst 4, 1) := by decide +kernel
theorem dX9_range_2 : decode cX9_range 2 = .ok (.if_icmp .eq 9, 3) := by decide +kernel
theorem dX9_range_5 : decode cX9_range 5 = .ok (.iload_n 1, 1) := by decide +kernel
theorem dX9_range_6 : decode cX9_range 6 = .ok (.bipush 6, 2) := by decide +kernel
theorem dX9_range_8 : decode cX9_range 8 = .ok (.if_icmp .ne 25, 3) := by decide +kernel
theorem dX9_range_11 : decode cX9_range 11 = .ok (.iload 6, 2) := by decide +kernel
theorem dX9_range_13 : decode cX9_range 13 = .ok (.iconst 0, 1) := by decide +kernel
theorem dX9_range_14 : decode cX9_range 14 = .ok (.iload_n 1, 1) := by decide +kernel
theorem dX9_range_15 : decode cX9_range 15 = .ok (.iconst 4, 1) := by decide +kernel
theorem dX9_range_16 : decode cX9_range 16 = .ok (.if_icmp .ne 8, 3) := by decide +kernel
theorem dX9_range_19 : decode cX9_range 19 = .ok (.bipush 32, 2) := by decide +kernel
theorem dX9_range_21 : decode cX9_range 21 = .ok (.goto 6, 3) := by decide +kernel
theorem dX9_range_24 : decode cX9_range 24 = .ok (.sipush 128, 3) := by decide +kernel
theorem dX9_range_27 : decode cX9_range 27 = .ok (.invokestatic 91, 3) := by decide +kernel
theorem dX9_range_30 : decode cX9_range 30 = .ok (.ifCond .ne 6, 3) := by decide +kernel
theorem dX9_range_33 : decode cX9_range 33 = .ok (.bipush (-2), 2) := by decide +kernel
theorem dX9_range_35 : decode cX9_range 35 = .ok (.ireturn, 1) := by decide +kernel
theorem dX9_range_36 : decode cX9_range 36 = .ok (.aload_n 0, 1) := by decide +kernel
theorem dX9_range_37 : decode cX9_range 37 = .ok (.getfield 310, 3) := by decide +kernel
theorem dX9_range_40 : decode cX9_range 40 = .ok (.bipush 12, 2) := by decide +kernel
theorem dX9_range_42 : decode cX9_range 42 = .ok (.if_icmp .ne 6, 3) := by decide +kernel
theorem dX9_range_45 : decode cX9_range 45 = .ok (.bipush (-3), 2) := by decide +kernel
theorem dX9_range_47 : decode cX9_range 47 = .ok (.ireturn, 1) := by decide +kernel
theorem dX9_range_48 : decode cX9_range 48 = .ok (.aload_n 0, 1) := by decide +kernel
theorem dX9_range_49 : decode cX9_range 49 = .ok (.getfield 82, 3) := by decide +kernel
theorem dX9_range_52 : decode cX9_range 52 = .ok (.aload_n 0, 1) := by decide +kernel
theorem dX9_range_53 : decode cX9_range 53 = .ok (.getfield 310, 3) := by decide +kernel
theorem dX9_range_56 : decode cX9_range 56 = .ok (.iload_n 1, 1) := by decide +kernel
theorem dX9_range_57 : decode cX9_range 57 = .ok (.iastore, 1) := by decide +kernel
theorem dX9_range_58 : decode cX9_range 58 = .ok (.aload_n 0, 1) := by decide +kernel
theorem dX9_range_59 : decode cX9_range 59 = .ok (.getfield 88, 3) := by decide +kernel
theorem dX9_range_62 : decode cX9_range 62 = .ok (.aload_n 0, 1) := by decide +kernel
theorem dX9_range_63 : decode cX9_range 63 = .ok (.getfield 310, 3) := by decide +kernel
theorem dX9_range_66 : decode cX9_range 66 = .ok (.iload 6, 2) := by decide +kernel
theorem dX9_range_68 : decode cX9_range 68 = .ok (.iastore, 1) := by decide +kernel
theorem dX9_range_69 : decode cX9_range 69 = .ok (.aload_n 0, 1) := by decide +kernel
theorem dX9_range_70 : decode cX9_range 70 = .ok (.getfield 85, 3) := by decide +kernel
theorem dX9_range_73 : decode cX9_range 73 = .ok (.iconst 4, 1) := by decide +kernel
theorem dX9_range_74 : decode cX9_range 74 = .ok (.aload_n 0, 1) := by decide +kernel
theorem dX9_range_75 : decode cX9_range 75 = .ok (.getfield 310, 3) := by decide +kernel
theorem dX9_range_78 : decode cX9_range 78 = .ok (.imul, 1) := by decide +kernel
theorem dX9_range_79 : decode cX9_range 79 = .ok (.iload_n 2, 1) := by decide +kernel
theorem dX9_range_80 : decode cX9_range 80 = .ok (.iastore, 1) := by decide +kernel
theorem dX9_range_81 : decode cX9_range 81 = .ok (.aload_n 0, 1) := by decide +kernel
theorem dX9_range_82 : decode cX9_range 82 = .ok (.getfield 85, 3) := by decide +kernel
theorem dX9_range_85 : decode cX9_range 85 = .ok (.iconst 4, 1) := by decide +kernel
theorem dX9_range_86 : decode cX9_range 86 = .ok (.aload_n 0, 1) := by decide +kernel
theorem dX9_range_87 : decode cX9_range 87 = .ok (.getfield 310, 3) := by decide +kernel
theorem dX9_range_90 : decode cX9_range 90 = .ok (.imul, 1) := by decide +kernel
theorem dX9_range_91 : decode cX9_range 91 = .ok (.iconst 1, 1) := by decide +kernel
theorem dX9_range_92 : decode cX9_range 92 = .ok (.iadd, 1) := by decide +kernel
theorem dX9_range_93 : decode cX9_range 93 = .ok (.iload_n 3, 1) := by decide +kernel
theorem dX9_range_94 : decode cX9_range 94 = .ok (.iastore, 1) := by decide +kernel
theorem dX9_range_95 : decode cX9_range 95 = .ok (.aload_n 0, 1) := by decide +kernel
theorem dX9_range_96 : decode cX9_range 96 = .ok (.getfield 85, 3) := by decide +kernel
theorem dX9_range_99 : decode cX9_range 99 = .ok (.iconst 4, 1) := by decide +kernel
theorem dX9_range_100 : decode cX9_range 100 = .ok (.aload_n 0, 1) := by decide +kernel
theorem dX9_range_101 : decode cX9_range 101 = .ok (.getfield 310, 3) := by decide +kernel
theorem dX9_range_104 : decode cX9_range 104 = .ok (.imul, 1) := by decide +kernel
theorem dX9_range_105 : decode cX9_range 105 = .ok (.iconst 2, 1) := by decide +kernel
theorem dX9_range_106 : decode cX9_range 106 = .ok (.iadd, 1) := by decide +kernel
theorem dX9_range_107 : decode cX9_range 107 = .ok (.iload 4, 2) := by decide +kernel
theorem dX9_range_109 : decode cX9_range 109 = .ok (.iastore, 1) := by decide +kernel
theorem dX9_range_110 : decode cX9_range 110 = .ok (.aload_n 0, 1) := by decide +kernel
theorem dX9_range_111 : decode cX9_range 111 = .ok (.getfield 85, 3) := by decide +kernel
theorem dX9_range_114 : decode cX9_range 114 = .ok (.iconst 4, 1) := by decide +kernel
theorem dX9_range_115 : decode cX9_range 115 = .ok (.aload_n 0, 1) := by decide +kernel
theorem dX9_range_116 : decode cX9_range 116 = .ok (.getfield 310, 3) := by decide +kernel
theorem dX9_range_119 : decode cX9_range 119 = .ok (.imul, 1) := by decide +kernel
theorem dX9_range_120 : decode cX9_range 120 = .ok (.iconst 3, 1) := by decide +kernel
theorem dX9_range_121 : decode cX9_range 121 = .ok (.iadd, 1) := by decide +kernel
theorem dX9_range_122 : decode cX9_range 122 = .ok (.iload 5, 2) := by decide +kernel
theorem dX9_range_124 : decode cX9_range 124 = .ok (.iastore, 1) := by decide +kernel
theorem dX9_range_125 : decode cX9_range 125 = .ok (.aload_n 0, 1) := by decide +kernel
theorem dX9_range_126 : decode cX9_range 126 = .ok (.dup, 1) := by decide +kernel
theorem dX9_range_127 : decode cX9_range 127 = .ok (.getfield 310, 3) := by decide +kernel
theorem dX9_range_130 : decode cX9_range 130 = .ok (.iconst 1, 1) := by decide +kernel
theorem dX9_range_131 : decode cX9_range 131 = .ok (.iadd, 1) := by decide +kernel
theorem dX9_range_132 : decode cX9_range 132 = .ok (.putfield 310, 3) := by decide +kernel
theorem dX9_range_135 : decode cX9_range 135 = .ok (.aload_n 0, 1) := by decide +kernel
theorem dX9_range_136 : decode cX9_range 136 = .ok (.getfield 310, 3) := by decide +kernel
theorem dX9_range_139 : decode cX9_range 139 = .ok (.ireturn, 1) := by decide +kernel
theorem dX9_clear_0 : decode cX9_clear 0 = .ok (.aload_n 0, 1) := by decide +kernel
theorem dX9_clear_1 : decode cX9_clear 1 = .ok (.getfield 304, 3) := by decide +kernel
theorem dX9_clear_4 : decode cX9_clear 4 = .ok (.aload_n 0, 1) := by decide +kernel
theorem dX9_clear_5 : decode cX9_clear 5 = .ok (.getfield 307, 3) := by decide +kernel
theorem dX9_clear_8 : decode cX9_clear 8 = .ok (.iadd, 1) := by decide +kernel
theorem dX9_clear_9 : decode cX9_clear 9 = .ok (.aload_n 0, 1) := by decide +kernel
theorem dX9_clear_10 : decode cX9_clear 10 = .ok (.getfield 310, 3) := by decide +kernel
theorem dX9_clear_13 : decode cX9_clear 13 = .ok (.iadd, 1) := by decide +kernel
theorem dX9_clear_14 : decode cX9_clear 14 = .ok (.istore_n 1, 1) := by decide +kernel
theorem dX9_clear_15 : decode cX9_clear 15 = .ok (.aload_n 0, 1) := by decide +kernel
theorem dX9_clear_16 : decode cX9_clear 16 = .ok (.iconst 0, 1) := by decide +kernel
theorem dX9_clear_17 : decode cX9_clear 17 = .ok (.putfield 304, 3) := by decide +kernel
theorem dX9_clear_20 : decode cX9_clear 20 = .ok (.aload_n 0, 1) := by decide +kernel
theorem dX9_clear_21 : decode cX9_clear 21 = .ok (.iconst 0, 1) := by decide +kernel
theorem dX9_clear_22 : decode cX9_clear 22 = .ok (.putfield 307, 3) := by decide +kernel
theorem dX9_clear_25 : decode cX9_clear 25 = .ok (.aload_n 0, 1) := by decide +kernel
theorem dX9_clear_26 : decode cX9_clear 26 = .ok (.iconst 0, 1) := by decide +kernel
theorem dX9_clear_27 : decode cX9_clear 27 = .ok (.putfield 310, 3) := by decide +kernel
theorem dX9_clear_30 : decode cX9_clear 30 = .ok (.iload_n 1, 1) := by decide +kernel
theorem dX9_clear_31 : decode cX9_clear 31 = .ok (.ireturn, 1) := by decide +kernel
theorem dX9_isListed_0 : decode cX9_isListed 0 = .ok (.aload_n 0, 1) := by decide +kernel
theorem dX9_isListed_1 : decode cX9_isListed 1 = .ok (.iload_n 1, 1) := by decide +kernel
theorem dX9_isListed_2 : decode cX9_isListed 2 = .ok (.iconst 2, 1) := by decide +kernel
theorem dX9_isListed_3 : decode cX9_isListed 3 = .ok (.invokevirtual 107, 3) := by decide +kernel
theorem dX9_isListed_6 : decode cX9_isListed 6 = .ok (.istore_n 2, 1) := by decide +kernel
theorem dX9_isListed_7 : decode cX9_isListed 7 = .ok (.iconst 0, 1) := by decide +kernel
theorem dX9_isListed_8 : decode cX9_isListed 8 = .ok (.istore_n 3, 1) := by decide +kernel
theorem dX9_isListed_9 : decode cX9_isListed 9 = .ok (.iload_n 3, 1) := by decide +kernel
theorem dX9_isListed_10 : decode cX9_isListed 10 = .ok (.aload_n 0, 1) := by decide +kernel
theorem dX9_isListed_11 : decode cX9_isListed 11 = .ok (.getfield 304, 3) := by decide +kernel
theorem dX9_isListed_14 : decode cX9_isListed 14 = .ok (.if_icmp .ge 220, 3) := by decide +kernel
theorem dX9_isListed_17 : decode cX9_isListed 17 = .ok (.aload_n 0, 1) := by decide +kernel
theorem dX9_isListed_18 : decode cX9_isListed 18 = .ok (.getfield 61, 3) := by decide +kernel
theorem dX9_isListed_21 : decode cX9_isListed 21 = .ok (.iload_n 3, 1) := by decide +kernel
theorem dX9_isListed_22 : decode cX9_isListed 22 = .ok (.iaload, 1) := by decide +kernel
theorem dX9_isListed_23 : decode cX9_isListed 23 = .ok (.aload_n 0, 1) := by decide +kernel
theorem dX9_isListed_24 : decode cX9_isListed 24 = .ok (.getfield 24, 3) := by decide +kernel
theorem dX9_isListed_27 : decode cX9_isListed 27 = .ok (.iload_n 1, 1) := by decide +kernel
theorem dX9_isListed_28 : decode cX9_isListed 28 = .ok (.iaload, 1) := by decide +kernel
theorem dX9_isListed_29 : decode cX9_isListed 29 = .ok (.if_icmp .ne 7, 3) := by decide +kernel
theorem dX9_isListed_32 : decode cX9_isListed 32 = .ok (.iconst 1, 1) := by decide +kernel
theorem dX9_isListed_33 : decode cX9_isListed 33 = .ok (.goto 4, 3) := by decide +kernel
theorem dX9_isListed_36 : decode cX9_isListed 36 = .ok (.iconst 0, 1) := by decide +kernel
theorem dX9_isListed_37 : decode cX9_isListed 37 = .ok (.istore 4, 2) := by decide +kernel
theorem dX9_isListed_39 : decode cX9_isListed 39 = .ok (.iconst 0, 1) := by decide +kernel
theorem dX9_isListed_40 : decode cX9_isListed 40 = .ok (.istore 5, 2) := by decide +kernel
theorem dX9_isListed_42 : decode cX9_isListed 42 = .ok (.iload 5, 2) := by decide +kernel
theorem dX9_isListed_44 : decode cX9_isListed 44 = .ok (.bipush 8, 2) := by decide +kernel
theorem dX9_isListed_46 : decode cX9_isListed 46 = .ok (.if_icmp .ge 48, 3) := by decide +kernel
theorem dX9_isListed_49 : decode cX9_isListed 49 = .ok (.iload 4, 2) := by decide +kernel
theorem dX9_isListed_51 : decode cX9_isListed 51 = .ok (.ifCond .eq 34, 3) := by decide +kernel
theorem dX9_isListed_54 : decode cX9_isListed 54 = .ok (.aload_n 0, 1) := by decide +kernel
theorem dX9_isListed_55 : decode cX9_isListed 55 = .ok (.getfield 64, 3) := by decide +kernel
theorem dX9_isListed_58 : decode cX9_isListed 58 = .ok (.bipush 8, 2) := by decide +kernel
theorem dX9_isListed_60 : decode cX9_isListed 60 = .ok (.iload_n 3, 1) := by decide +kernel
theorem dX9_isListed_61 : decode cX9_isListed 61 = .ok (.imul, 1) := by decide +kernel
theorem dX9_isListed_62 : decode cX9_isListed 62 = .ok (.iload 5, 2) := by decide +kernel
theorem dX9_isListed_64 : decode cX9_isListed 64 = .ok (.iadd, 1) := by decide +kernel
theorem dX9_isListed_65 : decode cX9_isListed 65 = .ok (.iaload, 1) := by decide +kernel
theorem dX9_isListed_66 : decode cX9_isListed 66 = .ok (.aload_n 0, 1) := by decide +kernel
theorem dX9_isListed_67 : decode cX9_isListed 67 = .ok (.getfield 27, 3) := by decide +kernel
theorem dX9_isListed_70 : decode cX9_isListed 70 = .ok (.bipush 8, 2) := by decide +kernel
theorem dX9_isListed_72 : decode cX9_isListed 72 = .ok (.iload_n 1, 1) := by decide +kernel
theorem dX9_isListed_73 : decode cX9_isListed 73 = .ok (.imul, 1) := by decide +kernel
theorem dX9_isListed_74 : decode cX9_isListed 74 = .ok (.iload 5, 2) := by decide +kernel
theorem dX9_isListed_76 : decode cX9_isListed 76 = .ok (.iadd, 1) := by decide +kernel
theorem dX9_isListed_77 : decode cX9_isListed 77 = .ok (.iaload, 1) := by decide +kernel
theorem dX9_isListed_78 : decode cX9_isListed 78 = .ok (.if_icmp .ne 7, 3) := by decide +kernel
theorem dX9_isListed_81 : decode cX9_isListed 81 = .ok (.iconst 1, 1) := by decide +kernel
theorem dX9_isListed_82 : decode cX9_isListed 82 = .ok (.goto 4, 3) := by decide +kernel
theorem dX9_isListed_85 : decode cX9_isListed 85 = .ok (.iconst 0, 1) := by decide +kernel
theorem dX9_isListed_86 : decode cX9_isListed 86 = .ok (.istore 4, 2) := by decide +kernel
theorem dX9_isListed_88 : decode cX9_isListed 88 = .ok (.iinc 5 1, 3) := by decide +kernel
theorem dX9_isListed_91 : decode cX9_isListed 91 = .ok (.goto (-49), 3) := by decide +kernel
theorem dX9_isListed_94 : decode cX9_isListed 94 = .ok (.aload_n 0, 1) := by decide +kernel
theorem dX9_isListed_95 : decode cX9_isListed 95 = .ok (.getfield 58, 3) := by decide +kernel
theorem dX9_isListed_98 : decode cX9_isListed 98 = .ok (.iload_n 3, 1) := by decide +kernel
theorem dX9_isListed_99 : decode cX9_isListed 99 = .ok (.iaload, 1) := by decide +kernel
theorem dX9_isListed_100 : decode cX9_isListed 100 = .ok (.istore 5, 2) := by decide +kernel
theorem dX9_isListed_102 : decode cX9_isListed 102 = .ok (.iload 4, 2) := by decide +kernel
theorem dX9_isListed_104 : decode cX9_isListed 104 = .ok (.ifCond .eq 51, 3) := by decide +kernel
theorem dX9_isListed_107 : decode cX9_isListed 107 = .ok (.iload_n 2, 1) := by decide +kernel
theorem dX9_isListed_108 : decode cX9_isListed 108 = .ok (.iload 5, 2) := by decide +kernel
theorem dX9_isListed_110 : decode cX9_isListed 110 = .ok (.if_icmp .eq 41, 3) := by decide +kernel
theorem dX9_isListed_113 : decode cX9_isListed 113 = .ok (.aload_n 0, 1) := by decide +kernel
theorem dX9_isListed_114 : decode cX9_isListed 114 = .ok (.getfield 67, 3) := by decide +kernel
theorem dX9_isListed_117 : decode cX9_isListed 117 = .ok (.iload_n 3, 1) := by decide +kernel
theorem dX9_isListed_118 : decode cX9_isListed 118 = .ok (.baload, 1) := by decide +kernel
theorem dX9_isListed_119 : decode cX9_isListed 119 = .ok (.ifCond .eq 36, 3) := by decide +kernel
theorem dX9_isListed_122 : decode cX9_isListed 122 = .ok (.iload_n 2, 1) := by decide +kernel
theorem dX9_isListed_123 : decode cX9_isListed 123 = .ok (.iload 5, 2) := by decide +kernel
theorem dX9_isListed_125 : decode cX9_isListed 125 = .ok (.if_icmp .le 30, 3) := by decide +kernel
theorem dX9_isListed_128 : decode cX9_isListed 128 = .ok (.aload_n 0, 1) := by decide +kernel
theorem dX9_isListed_129 : decode cX9_isListed 129 = .ok (.getfield 37, 3) := by decide +kernel
theorem dX9_isListed_132 : decode cX9_isListed 132 = .ok (.aload_n 0, 1) := by decide +kernel
theorem dX9_isListed_133 : decode cX9_isListed 133 = .ok (.iload_n 1, 1) := by decide +kernel
theorem dX9_isListed_134 : decode cX9_isListed 134 = .ok (.iconst 2, 1) := by decide +kernel
theorem dX9_isListed_135 : decode cX9_isListed 135 = .ok (.invokevirtual 111, 3) := by decide +kernel
theorem dX9_isListed_138 : decode cX9_isListed 138 = .ok (.iload_n 2, 1) := by decide +kernel
theorem dX9_isListed_139 : decode cX9_isListed 139 = .ok (.iadd, 1) := by decide +kernel
theorem dX9_isListed_140 : decode cX9_isListed 140 = .ok (.iload 5, 2) := by decide +kernel
theorem dX9_isListed_142 : decode cX9_isListed 142 = .ok (.isub, 1) := by decide +kernel
theorem dX9_isListed_143 : decode cX9_isListed 143 = .ok (.iconst 1, 1) := by decide +kernel
theorem dX9_isListed_144 : decode cX9_isListed 144 = .ok (.isub, 1) := by decide +kernel
theorem dX9_isListed_145 : decode cX9_isListed 145 = .ok (.baload, 1) := by decide +kernel
theorem dX9_isListed_146 : decode cX9_isListed 146 = .ok (.bipush 46, 2) := by decide +kernel
theorem dX9_isListed_148 : decode cX9_isListed 148 = .ok (.if_icmp .ne 7, 3) := by decide +kernel
theorem dX9_isListed_151 : decode cX9_isListed 151 = .ok (.iconst 1, 1) := by decide +kernel
theorem dX9_isListed_152 : decode cX9_isListed 152 = .ok (.goto 4, 3) := by decide +kernel
theorem dX9_isListed_155 : decode cX9_isListed 155 = .ok (.iconst 0, 1) := by decide +kernel
theorem dX9_isListed_156 : decode cX9_isListed 156 = .ok (.istore 4, 2) := by decide +kernel
theorem dX9_isListed_158 : decode cX9_isListed 158 = .ok (.iconst 0, 1) := by decide +kernel
theorem dX9_isListed_159 : decode cX9_isListed 159 = .ok (.istore 6, 2) := by decide +kernel
theorem dX9_isListed_161 : decode cX9_isListed 161 = .ok (.iload 6, 2) := by decide +kernel
theorem dX9_isListed_163 : decode cX9_isListed 163 = .ok (.iload 5, 2) := by decide +kernel
theorem dX9_isListed_165 : decode cX9_isListed 165 = .ok (.if_icmp .ge 56, 3) := by decide +kernel
theorem dX9_isListed_168 : decode cX9_isListed 168 = .ok (.iload 4, 2) := by decide +kernel
theorem dX9_isListed_170 : decode cX9_isListed 170 = .ok (.ifCond .eq 51, 3) := by decide +kernel
theorem dX9_isListed_173 : decode cX9_isListed 173 = .ok (.aload_n 0, 1) := by decide +kernel
theorem dX9_isListed_174 : decode cX9_isListed 174 = .ok (.getfield 55, 3) := by decide +kernel
theorem dX9_isListed_177 : decode cX9_isListed 177 = .ok (.sipush 300, 3) := by decide +kernel
theorem dX9_isListed_180 : decode cX9_isListed 180 = .ok (.iload_n 3, 1) := by decide +kernel
theorem dX9_isListed_181 : decode cX9_isListed 181 = .ok (.imul, 1) := by decide +kernel
theorem dX9_isListed_182 : decode cX9_isListed 182 = .ok (.iload 6, 2) := by decide +kernel
theorem dX9_isListed_184 : decode cX9_isListed 184 = .ok (.iadd, 1) := by decide +kernel
theorem dX9_isListed_185 : decode cX9_isListed 185 = .ok (.baload, 1) := by decide +kernel
theorem dX9_isListed_186 : decode cX9_isListed 186 = .ok (.aload_n 0, 1) := by decide +kernel
theorem dX9_isListed_187 : decode cX9_isListed 187 = .ok (.getfield 37, 3) := by decide +kernel
theorem dX9_isListed_190 : decode cX9_isListed 190 = .ok (.aload_n 0, 1) := by decide +kernel
theorem dX9_isListed_191 : decode cX9_isListed 191 = .ok (.iload_n 1, 1) := by decide +kernel
theorem dX9_isListed_192 : decode cX9_isListed 192 = .ok (.iconst 2, 1) := by decide +kernel
theorem dX9_isListed_193 : decode cX9_isListed 193 = .ok (.invokevirtual 111, 3) := by decide +kernel
theorem dX9_isListed_196 : decode cX9_isListed 196 = .ok (.iload_n 2, 1) := by decide +kernel
theorem dX9_isListed_197 : decode cX9_isListed 197 = .ok (.iadd, 1) := by decide +kernel
theorem dX9_isListed_198 : decode cX9_isListed 198 = .ok (.iload 5, 2) := by decide +kernel
theorem dX9_isListed_200 : decode cX9_isListed 200 = .ok (.isub, 1) := by decide +kernel
theorem dX9_isListed_201 : decode cX9_isListed 201 = .ok (.iload 6, 2) := by decide +kernel
theorem dX9_isListed_203 : decode cX9_isListed 203 = .ok (.iadd, 1) := by decide +kernel
theorem dX9_isListed_204 : decode cX9_isListed 204 = .ok (.baload, 1) := by decide +kernel
theorem dX9_isListed_205 : decode cX9_isListed 205 = .ok (.if_icmp .ne 7, 3) := by decide +kernel
theorem dX9_isListed_208 : decode cX9_isListed 208 = .ok (.iconst 1, 1) := by decide +kernel
theorem dX9_isListed_209 : decode cX9_isListed 209 = .ok (.goto 4, 3) := by decide +kernel
theorem dX9_isListed_212 : decode cX9_isListed 212 = .ok (.iconst 0, 1) := by decide +kernel
theorem dX9_isListed_213 : decode cX9_isListed 213 = .ok (.istore 4, 2) := by decide +kernel
theorem dX9_isListed_215 : decode cX9_isListed 215 = .ok (.iinc 6 1, 3) := by decide +kernel
theorem dX9_isListed_218 : decode cX9_isListed 218 = .ok (.goto (-57), 3) := by decide +kernel
theorem dX9_isListed_221 : decode cX9_isListed 221 = .ok (.iload 4, 2) := by decide +kernel
theorem dX9_isListed_223 : decode cX9_isListed 223 = .ok (.ifCond .eq 5, 3) := by decide +kernel
theorem dX9_isListed_226 : decode cX9_isListed 226 = .ok (.iconst 1, 1) := by decide +kernel
theorem dX9_isListed_227 : decode cX9_isListed 227 = .ok (.ireturn, 1) := by decide +kernel
theorem dX9_isListed_228 : decode cX9_isListed 228 = .ok (.iinc 3 1, 3) := by decide +kernel
theorem dX9_isListed_231 : decode cX9_isListed 231 = .ok (.goto (-222), 3) := by decide +kernel
theorem dX9_isListed_234 : decode cX9_isListed 234 = .ok (.iconst 0, 1) := by decide +kernel
theorem dX9_isListed_235 : decode cX9_isListed 235 = .ok (.ireturn, 1) := by decide +kernel
theorem dX9_isInRange_0 : decode cX9_isInRange 0 = .ok (.iload_n 1, 1) := by decide +kernel
theorem dX9_isInRange_1 : decode cX9_isInRange 1 = .ok (.bipush 6, 2) := by decide +kernel
theorem dX9_isInRange_3 : decode cX9_isInRange 3 = .ok (.if_icmp .ne 22, 3) := by decide +kernel
theorem dX9_isInRange_6 : decode cX9_isInRange 6 = .ok (.iload_n 2, 1) := by decide +kernel
theorem dX9_isInRange_7 : decode cX9_isInRange 7 = .ok (.ifCond .ne 18, 3) := by decide +kernel
theorem dX9_isInRange_10 : decode cX9_isInRange 10 = .ok (.iload_n 3, 1) := by decide +kernel
theorem dX9_isInRange_11 : decode cX9_isInRange 11 = .ok (.ifCond .ne 14, 3) := by decide +kernel
theorem dX9_isInRange_14 : decode cX9_isInRange 14 = .ok (.iload 4, 2) := by decide +kernel
theorem dX9_isInRange_16 : decode cX9_isInRange 16 = .ok (.ldc 227, 2) := by decide +kernel
theorem dX9_isInRange_18 : decode cX9_isInRange 18 = .ok (.if_icmp .ne 7, 3) := by decide +kernel
theorem dX9_isInRange_21 : decode cX9_isInRange 21 = .ok (.iconst 1, 1) := by decide +kernel
theorem dX9_isInRange_22 : decode cX9_isInRange 22 = .ok (.goto 4, 3) := by decide +kernel
theorem dX9_isInRange_25 : decode cX9_isInRange 25 = .ok (.iconst 0, 1) := by decide +kernel
theorem dX9_isInRange_26 : decode cX9_isInRange 26 = .ok (.istore 6, 2) := by decide +kernel
theorem dX9_isInRange_28 : decode cX9_isInRange 28 = .ok (.iload 6, 2) := by decide +kernel
theorem dX9_isInRange_30 : decode cX9_isInRange 30 = .ok (.ifCond .eq 7, 3) := by decide +kernel
theorem dX9_isInRange_33 : decode cX9_isInRange 33 = .ok (.iconst 4, 1) := by decide +kernel
theorem dX9_isInRange_34 : decode cX9_isInRange 34 = .ok (.goto 4, 3) := by decide +kernel
theorem dX9_isInRange_37 : decode cX9_isInRange 37 = .ok (.iload_n 1, 1) := by decide +kernel
theorem dX9_isInRange_38 : decode cX9_isInRange 38 = .ok (.istore 7, 2) := by decide +kernel
theorem dX9_isInRange_40 : decode cX9_isInRange 40 = .ok (.iload 6, 2) := by decide +kernel
theorem dX9_isInRange_42 : decode cX9_isInRange 42 = .ok (.ifCond .eq 8, 3) := by decide +kernel
theorem dX9_isInRange_45 : decode cX9_isInRange 45 = .ok (.iload 5, 2) := by decide +kernel
theorem dX9_isInRange_47 : decode cX9_isInRange 47 = .ok (.goto 4, 3) := by decide +kernel
theorem dX9_isInRange_50 : decode cX9_isInRange 50 = .ok (.iload_n 2, 1) := by decide +kernel
theorem dX9_isInRange_51 : decode cX9_isInRange 51 = .ok (.istore 8, 2) := by decide +kernel
theorem dX9_isInRange_53 : decode cX9_isInRange 53 = .ok (.iconst 0, 1) := by decide +kernel
theorem dX9_isInRange_54 : decode cX9_isInRange 54 = .ok (.istore 9, 2) := by decide +kernel
theorem dX9_isInRange_56 : decode cX9_isInRange 56 = .ok (.iload 9, 2) := by decide +kernel
theorem dX9_isInRange_58 : decode cX9_isInRange 58 = .ok (.aload_n 0, 1) := by decide +kernel
theorem dX9_isInRange_59 : decode cX9_isInRange 59 = .ok (.getfield 310, 3) := by decide +kernel
theorem dX9_isInRange_62 : decode cX9_isInRange 62 = .ok (.if_icmp .ge 149, 3) := by decide +kernel
theorem dX9_isInRange_65 : decode cX9_isInRange 65 = .ok (.aload_n 0, 1) := by decide +kernel
theorem dX9_isInRange_66 : decode cX9_isInRange 66 = .ok (.getfield 82, 3) := by decide +kernel
theorem dX9_isInRange_69 : decode cX9_isInRange 69 = .ok (.iload 9, 2) := by decide +kernel
theorem dX9_isInRange_71 : decode cX9_isInRange 71 = .ok (.iaload, 1) := by decide +kernel
theorem dX9_isInRange_72 : decode cX9_isInRange 72 = .ok (.iload 7, 2) := by decide +kernel
theorem dX9_isInRange_74 : decode cX9_isInRange 74 = .ok (.if_icmp .ne 7, 3) := by decide +kernel
theorem dX9_isInRange_77 : decode cX9_isInRange 77 = .ok (.iconst 1, 1) := by decide +kernel
theorem dX9_isInRange_78 : decode cX9_isInRange 78 = .ok (.goto 4, 3) := by decide +kernel
theorem dX9_isInRange_81 : decode cX9_isInRange 81 = .ok (.iconst 0, 1) := by decide +kernel
theorem dX9_isInRange_82 : decode cX9_isInRange 82 = .ok (.istore 10, 2) := by decide +kernel
theorem dX9_isInRange_84 : decode cX9_isInRange 84 = .ok (.iconst 0, 1) := by decide +kernel
theorem dX9_isInRange_85 : decode cX9_isInRange 85 = .ok (.istore 11, 2) := by decide +kernel
theorem dX9_isInRange_87 : decode cX9_isInRange 87 = .ok (.iload 11, 2) := by decide +kernel
theorem dX9_isInRange_89 : decode cX9_isInRange 89 = .ok (.aload_n 0, 1) := by decide +kernel
theorem dX9_isInRange_90 : decode cX9_isInRange 90 = .ok (.getfield 88, 3) := by decide +kernel
theorem dX9_isInRange_93 : decode cX9_isInRange 93 = .ok (.iload 9, 2) := by decide +kernel
theorem dX9_isInRange_95 : decode cX9_isInRange 95 = .ok (.iaload, 1) := by decide +kernel
theorem dX9_isInRange_96 : decode cX9_isInRange 96 = .ok (.if_icmp .ge 102, 3) := by decide +kernel
theorem dX9_isInRange_99 : decode cX9_isInRange 99 = .ok (.iload 10, 2) := by decide +kernel
theorem dX9_isInRange_101 : decode cX9_isInRange 101 = .ok (.ifCond .eq 97, 3) := by decide +kernel
theorem dX9_isInRange_104 : decode cX9_isInRange 104 = .ok (.iload 11, 2) := by decide +kernel
theorem dX9_isInRange_106 : decode cX9_isInRange 106 = .ok (.bipush 32, 2) := by decide +kernel
theorem dX9_isInRange_108 : decode cX9_isInRange 108 = .ok (.idiv, 1) := by decide +kernel
theorem dX9_isInRange_109 : decode cX9_isInRange 109 = .ok (.istore 12, 2) := by decide +kernel
theorem dX9_isInRange_111 : decode cX9_isInRange 111 = .ok (.iload 12, 2) := by decide +kernel
theorem dX9_isInRange_113 : decode cX9_isInRange 113 = .ok (.ifCond .ne 8, 3) := by decide +kernel
theorem dX9_isInRange_116 : decode cX9_isInRange 116 = .ok (.iload 8, 2) := by decide +kernel
theorem dX9_isInRange_118 : decode cX9_isInRange 118 = .ok (.goto 26, 3) := by decide +kernel
theorem dX9_isInRange_121 : decode cX9_isInRange 121 = .ok (.iload 12, 2) := by decide +kernel
theorem dX9_isInRange_123 : decode cX9_isInRange 123 = .ok (.iconst 1, 1) := by decide +kernel
theorem dX9_isInRange_124 : decode cX9_isInRange 124 = .ok (.if_icmp .ne 7, 3) := by decide +kernel
theorem dX9_isInRange_127 : decode cX9_isInRange 127 = .ok (.iload_n 3, 1) := by decide +kernel
theorem dX9_isInRange_128 : decode cX9_isInRange 128 = .ok (.goto 16, 3) := by decide +kernel
theorem dX9_isInRange_131 : decode cX9_isInRange 131 = .ok (.iload 12, 2) := by decide +kernel
theorem dX9_isInRange_133 : decode cX9_isInRange 133 = .ok (.iconst 2, 1) := by decide +kernel
theorem dX9_isInRange_134 : decode cX9_isInRange 134 = .ok (.if_icmp .ne 8, 3) := by decide +kernel
theorem dX9_isInRange_137 : decode cX9_isInRange 137 = .ok (.iload 4, 2) := by decide +kernel
theorem dX9_isInRange_139 : decode cX9_isInRange 139 = .ok (.goto 5, 3) := by decide +kernel
theorem dX9_isInRange_142 : decode cX9_isInRange 142 = .ok (.iload 5, 2) := by decide +kernel
theorem dX9_isInRange_144 : decode cX9_isInRange 144 = .ok (.istore 13, 2) := by decide +kernel
theorem dX9_isInRange_146 : decode cX9_isInRange 146 = .ok (.iload 13, 2) := by decide +kernel
theorem dX9_isInRange_148 : decode cX9_isInRange 148 = .ok (.bipush 31, 2) := by decide +kernel
theorem dX9_isInRange_150 : decode cX9_isInRange 150 = .ok (.iload 11, 2) := by decide +kernel
theorem dX9_isInRange_152 : decode cX9_isInRange 152 = .ok (.bipush 32, 2) := by decide +kernel
theorem dX9_isInRange_154 : decode cX9_isInRange 154 = .ok (.irem, 1) := by decide +kernel
theorem dX9_isInRange_155 : decode cX9_isInRange 155 = .ok (.isub, 1) := by decide +kernel
theorem dX9_isInRange_156 : decode cX9_isInRange 156 = .ok (.ishr, 1) := by decide +kernel
theorem dX9_isInRange_157 : decode cX9_isInRange 157 = .ok (.iconst 1, 1) := by decide +kernel
theorem dX9_isInRange_158 : decode cX9_isInRange 158 = .ok (.iand, 1) := by decide +kernel
theorem dX9_isInRange_159 : decode cX9_isInRange 159 = .ok (.aload_n 0, 1) := by decide +kernel
theorem dX9_isInRange_160 : decode cX9_isInRange 160 = .ok (.getfield 85, 3) := by decide +kernel
theorem dX9_isInRange_163 : decode cX9_isInRange 163 = .ok (.iconst 4, 1) := by decide +kernel
theorem dX9_isInRange_164 : decode cX9_isInRange 164 = .ok (.iload 9, 2) := by decide +kernel
theorem dX9_isInRange_166 : decode cX9_isInRange 166 = .ok (.imul, 1) := by decide +kernel
theorem dX9_isInRange_167 : decode cX9_isInRange 167 = .ok (.iload 12, 2) := by decide +kernel
theorem dX9_isInRange_169 : decode cX9_isInRange 169 = .ok (.iadd, 1) := by decide +kernel
theorem dX9_isInRange_170 : decode cX9_isInRange 170 = .ok (.iaload, 1) := by decide +kernel
theorem dX9_isInRange_171 : decode cX9_isInRange 171 = .ok (.bipush 31, 2) := by decide +kernel
theorem dX9_isInRange_173 : decode cX9_isInRange 173 = .ok (.iload 11, 2) := by decide +kernel
theorem dX9_isInRange_175 : decode cX9_isInRange 175 = .ok (.bipush 32, 2) := by decide +kernel
theorem dX9_isInRange_177 : decode cX9_isInRange 177 = .ok (.irem, 1) := by decide +kernel
theorem dX9_isInRange_178 : decode cX9_isInRange 178 = .ok (.isub, 1) := by decide +kernel
theorem dX9_isInRange_179 : decode cX9_isInRange 179 = .ok (.ishr, 1) := by decide +kernel
theorem dX9_isInRange_180 : decode cX9_isInRange 180 = .ok (.iconst 1, 1) := by decide +kernel
theorem dX9_isInRange_181 : decode cX9_isInRange 181 = .ok (.iand, 1) := by decide +kernel
theorem dX9_isInRange_182 : decode cX9_isInRange 182 = .ok (.if_icmp .ne 7, 3) := by decide +kernel
theorem dX9_isInRange_185 : decode cX9_isInRange 185 = .ok (.iconst 1, 1) := by decide +kernel
theorem dX9_isInRange_186 : decode cX9_isInRange 186 = .ok (.goto 4, 3) := by decide +kernel
theorem dX9_isInRange_189 : decode cX9_isInRange 189 = .ok (.iconst 0, 1) := by decide +kernel
theorem dX9_isInRange_190 : decode cX9_isInRange 190 = .ok (.istore 10, 2) := by decide +kernel
theorem dX9_isInRange_192 : decode cX9_isInRange 192 = .ok (.iinc 11 1, 3) := by decide +kernel
theorem dX9_isInRange_195 : decode cX9_isInRange 195 = .ok (.goto (-108), 3) := by decide +kernel
theorem dX9_isInRange_198 : decode cX9_isInRange 198 = .ok (.iload 10, 2) := by decide +kernel
theorem dX9_isInRange_200 : decode cX9_isInRange 200 = .ok (.ifCond .eq 5, 3) := by decide +kernel
theorem dX9_isInRange_203 : decode cX9_isInRange 203 = .ok (.iconst 1, 1) := by decide +kernel
theorem dX9_isInRange_204 : decode cX9_isInRange 204 = .ok (.ireturn, 1) := by decide +kernel
theorem dX9_isInRange_205 : decode cX9_isInRange 205 = .ok (.iinc 9 1, 3) := by decide +kernel
theorem dX9_isInRange_208 : decode cX9_isInRange 208 = .ok (.goto (-152), 3) := by decide +kernel
theorem dX9_isInRange_211 : decode cX9_isInRange 211 = .ok (.iconst 0, 1) := by decide +kernel
theorem dX9_isInRange_212 : decode cX9_isInRange 212 = .ok (.ireturn, 1) := by decide +kernel
theorem dX9_pair_0 : decode cX9_pair 0 = .ok (.aload_n 0, 1) := by decide +kernel
theorem dX9_pair_1 : decode cX9_pair 1 = .ok (.getfield 27, 3) := by decide +kernel
theorem dX9_pair_4 : decode cX9_pair 4 = .ok (.bipush 8, 2) := by decide +kernel
theorem dX9_pair_6 : decode cX9_pair 6 = .ok (.iload_n 1, 1) := by decide +kernel
theorem dX9_pair_7 : decode cX9_pair 7 = .ok (.imul, 1) := by decide +kernel
theorem dX9_pair_8 : decode cX9_pair 8 = .ok (.iconst 2, 1) := by decide +kernel
theorem dX9_pair_9 : decode cX9_pair 9 = .ok (.iload_n 2, 1) := by decide +kernel
theorem dX9_pair_10 : decode cX9_pair 10 = .ok (.imul, 1) := by decide +kernel
theorem dX9_pair_11 : decode cX9_pair 11 = .ok (.iadd, 1) := by decide +kernel
theorem dX9_pair_12 : decode cX9_pair 12 = .ok (.iaload, 1) := by decide +kernel
theorem dX9_pair_13 : decode cX9_pair 13 = .ok (.bipush 16, 2) := by decide +kernel
theorem dX9_pair_15 : decode cX9_pair 15 = .ok (.ishl, 1) := by decide +kernel
theorem dX9_pair_16 : decode cX9_pair 16 = .ok (.aload_n 0, 1) := by decide +kernel
theorem dX9_pair_17 : decode cX9_pair 17 = .ok (.getfield 27, 3) := by decide +kernel
theorem dX9_pair_20 : decode cX9_pair 20 = .ok (.bipush 8, 2) := by decide +kernel
theorem dX9_pair_22 : decode cX9_pair 22 = .ok (.iload_n 1, 1) := by decide +kernel
theorem dX9_pair_23 : decode cX9_pair 23 = .ok (.imul, 1) := by decide +kernel
theorem dX9_pair_24 : decode cX9_pair 24 = .ok (.iconst 2, 1) := by decide +kernel
theorem dX9_pair_25 : decode cX9_pair 25 = .ok (.iload_n 2, 1) := by decide +kernel
theorem dX9_pair_26 : decode cX9_pair 26 = .ok (.imul, 1) := by decide +kernel
theorem dX9_pair_27 : decode cX9_pair 27 = .ok (.iadd, 1) := by decide +kernel
theorem dX9_pair_28 : decode cX9_pair 28 = .ok (.iconst 1, 1) := by decide +kernel
theorem dX9_pair_29 : decode cX9_pair 29 = .ok (.iadd, 1) := by decide +kernel
theorem dX9_pair_30 : decode cX9_pair 30 = .ok (.iaload, 1) := by decide +kernel
theorem dX9_pair_31 : decode cX9_pair 31 = .ok (.ior, 1) := by decide +kernel
theorem dX9_pair_32 : decode cX9_pair 32 = .ok (.ireturn, 1) := by decide +kernel
theorem dX9_pass_0 : decode cX9_pass 0 = .ok (.aload_n 0, 1) := by decide +kernel
theorem dX9_pass_1 : decode cX9_pass 1 = .ok (.iload_n 1, 1) := by decide +kernel
theorem dX9_pass_2 : decode cX9_pass 2 = .ok (.invokevirtual 157, 3) := by decide +kernel
theorem dX9_pass_5 : decode cX9_pass 5 = .ok (.ifCond .ne 6, 3) := by decide +kernel
theorem dX9_pass_8 : decode cX9_pass 8 = .ok (.bipush (-2), 2) := by decide +kernel
theorem dX9_pass_10 : decode cX9_pass 10 = .ok (.ireturn, 1) := by decide +kernel
theorem dX9_pass_11 : decode cX9_pass 11 = .ok (.aload_n 0, 1) := by decide +kernel
theorem dX9_pass_12 : decode cX9_pass 12 = .ok (.getfield 17, 3) := by decide +kernel
theorem dX9_pass_15 : decode cX9_pass 15 = .ok (.iload_n 1, 1) := by decide +kernel
theorem dX9_pass_16 : decode cX9_pass 16 = .ok (.iaload, 1) := by decide +kernel
theorem dX9_pass_17 : decode cX9_pass 17 = .ok (.ifCond .eq 15, 3) := by decide +kernel
theorem dX9_pass_20 : decode cX9_pass 20 = .ok (.aload_n 0, 1) := by decide +kernel
theorem dX9_pass_21 : decode cX9_pass 21 = .ok (.getfield 17, 3) := by decide +kernel
theorem dX9_pass_24 : decode cX9_pass 24 = .ok (.iload_n 1, 1) := by decide +kernel
theorem dX9_pass_25 : decode cX9_pass 25 = .ok (.iaload, 1) := by decide +kernel
theorem dX9_pass_26 : decode cX9_pass 26 = .ok (.iconst 2, 1) := by decide +kernel
theorem dX9_pass_27 : decode cX9_pass 27 = .ok (.if_icmp .eq 5, 3) := by decide +kernel
theorem dX9_pass_30 : decode cX9_pass 30 = .ok (.iconst 1, 1) := by decide +kernel
theorem dX9_pass_31 : decode cX9_pass 31 = .ok (.ireturn, 1) := by decide +kernel
theorem dX9_pass_32 : decode cX9_pass 32 = .ok (.aload_n 0, 1) := by decide +kernel
theorem dX9_pass_33 : decode cX9_pass 33 = .ok (.iload_n 1, 1) := by decide +kernel
theorem dX9_pass_34 : decode cX9_pass 34 = .ok (.iconst 0, 1) := by decide +kernel
theorem dX9_pass_35 : decode cX9_pass 35 = .ok (.invokevirtual 107, 3) := by decide +kernel
theorem dX9_pass_38 : decode cX9_pass 38 = .ok (.ifCond .gt 12, 3) := by decide +kernel
theorem dX9_pass_41 : decode cX9_pass 41 = .ok (.aload_n 0, 1) := by decide +kernel
theorem dX9_pass_42 : decode cX9_pass 42 = .ok (.iload_n 1, 1) := by decide +kernel
theorem dX9_pass_43 : decode cX9_pass 43 = .ok (.iconst 1, 1) := by decide +kernel
theorem dX9_pass_44 : decode cX9_pass 44 = .ok (.invokevirtual 107, 3) := by decide +kernel
theorem dX9_pass_47 : decode cX9_pass 47 = .ok (.ifCond .le 5, 3) := by decide +kernel
theorem dX9_pass_50 : decode cX9_pass 50 = .ok (.iconst 2, 1) := by decide +kernel
theorem dX9_pass_51 : decode cX9_pass 51 = .ok (.ireturn, 1) := by decide +kernel
theorem dX9_pass_52 : decode cX9_pass 52 = .ok (.aload_n 0, 1) := by decide +kernel
theorem dX9_pass_53 : decode cX9_pass 53 = .ok (.iload_n 1, 1) := by decide +kernel
theorem dX9_pass_54 : decode cX9_pass 54 = .ok (.invokevirtual 313, 3) := by decide +kernel
theorem dX9_pass_57 : decode cX9_pass 57 = .ok (.ifCond .ne 5, 3) := by decide +kernel
theorem dX9_pass_60 : decode cX9_pass 60 = .ok (.iconst 3, 1) := by decide +kernel
theorem dX9_pass_61 : decode cX9_pass 61 = .ok (.ireturn, 1) := by decide +kernel
theorem dX9_pass_62 : decode cX9_pass 62 = .ok (.aload_n 0, 1) := by decide +kernel
theorem dX9_pass_63 : decode cX9_pass 63 = .ok (.getfield 24, 3) := by decide +kernel
theorem dX9_pass_66 : decode cX9_pass 66 = .ok (.iload_n 1, 1) := by decide +kernel
theorem dX9_pass_67 : decode cX9_pass 67 = .ok (.iaload, 1) := by decide +kernel
theorem dX9_pass_68 : decode cX9_pass 68 = .ok (.iconst 4, 1) := by decide +kernel
theorem dX9_pass_69 : decode cX9_pass 69 = .ok (.if_icmp .ne 29, 3) := by decide +kernel
theorem dX9_pass_72 : decode cX9_pass 72 = .ok (.aload_n 0, 1) := by decide +kernel
theorem dX9_pass_73 : decode cX9_pass 73 = .ok (.iconst 4, 1) := by decide +kernel
theorem dX9_pass_74 : decode cX9_pass 74 = .ok (.aload_n 0, 1) := by decide +kernel
theorem dX9_pass_75 : decode cX9_pass 75 = .ok (.getfield 27, 3) := by decide +kernel
theorem dX9_pass_78 : decode cX9_pass 78 = .ok (.bipush 8, 2) := by decide +kernel
theorem dX9_pass_80 : decode cX9_pass 80 = .ok (.iload_n 1, 1) := by decide +kernel
theorem dX9_pass_81 : decode cX9_pass 81 = .ok (.imul, 1) := by decide +kernel
theorem dX9_pass_82 : decode cX9_pass 82 = .ok (.iaload, 1) := by decide +kernel
theorem dX9_pass_83 : decode cX9_pass 83 = .ok (.iconst 0, 1) := by decide +kernel
theorem dX9_pass_84 : decode cX9_pass 84 = .ok (.iconst 0, 1) := by decide +kernel
theorem dX9_pass_85 : decode cX9_pass 85 = .ok (.iconst 0, 1) := by decide +kernel
theorem dX9_pass_86 : decode cX9_pass 86 = .ok (.invokevirtual 316, 3) := by decide +kernel
theorem dX9_pass_89 : decode cX9_pass 89 = .ok (.ifCond .eq 7, 3) := by decide +kernel
theorem dX9_pass_92 : decode cX9_pass 92 = .ok (.iconst 0, 1) := by decide +kernel
theorem dX9_pass_93 : decode cX9_pass 93 = .ok (.goto 4, 3) := by decide +kernel
theorem dX9_pass_96 : decode cX9_pass 96 = .ok (.iconst 5, 1) := by decide +kernel
theorem dX9_pass_97 : decode cX9_pass 97 = .ok (.ireturn, 1) := by decide +kernel
theorem dX9_pass_98 : decode cX9_pass 98 = .ok (.aload_n 0, 1) := by decide +kernel
theorem dX9_pass_99 : decode cX9_pass 99 = .ok (.getfield 24, 3) := by decide +kernel
theorem dX9_pass_102 : decode cX9_pass 102 = .ok (.iload_n 1, 1) := by decide +kernel
theorem dX9_pass_103 : decode cX9_pass 103 = .ok (.iaload, 1) := by decide +kernel
theorem dX9_pass_104 : decode cX9_pass 104 = .ok (.bipush 6, 2) := by decide +kernel
theorem dX9_pass_106 : decode cX9_pass 106 = .ok (.if_icmp .ne 42, 3) := by decide +kernel
theorem dX9_pass_109 : decode cX9_pass 109 = .ok (.aload_n 0, 1) := by decide +kernel
theorem dX9_pass_110 : decode cX9_pass 110 = .ok (.bipush 6, 2) := by decide +kernel
theorem dX9_pass_112 : decode cX9_pass 112 = .ok (.aload_n 0, 1) := by decide +kernel
theorem dX9_pass_113 : decode cX9_pass 113 = .ok (.iload_n 1, 1) := by decide +kernel
theorem dX9_pass_114 : decode cX9_pass 114 = .ok (.iconst 0, 1) := by decide +kernel
theorem dX9_pass_115 : decode cX9_pass 115 = .ok (.invokevirtual 320, 3) := by decide +kernel
theorem dX9_pass_118 : decode cX9_pass 118 = .ok (.aload_n 0, 1) := by decide +kernel
theorem dX9_pass_119 : decode cX9_pass 119 = .ok (.iload_n 1, 1) := by decide +kernel
theorem dX9_pass_120 : decode cX9_pass 120 = .ok (.iconst 1, 1) := by decide +kernel
theorem dX9_pass_121 : decode cX9_pass 121 = .ok (.invokevirtual 320, 3) := by decide +kernel
theorem dX9_pass_124 : decode cX9_pass 124 = .ok (.aload_n 0, 1) := by decide +kernel
theorem dX9_pass_125 : decode cX9_pass 125 = .ok (.iload_n 1, 1) := by decide +kernel
theorem dX9_pass_126 : decode cX9_pass 126 = .ok (.iconst 2, 1) := by decide +kernel
theorem dX9_pass_127 : decode cX9_pass 127 = .ok (.invokevirtual 320, 3) := by decide +kernel
theorem dX9_pass_130 : decode cX9_pass 130 = .ok (.aload_n 0, 1) := by decide +kernel
theorem dX9_pass_131 : decode cX9_pass 131 = .ok (.iload_n 1, 1) := by decide +kernel
theorem dX9_pass_132 : decode cX9_pass 132 = .ok (.iconst 3, 1) := by decide +kernel
theorem dX9_pass_133 : decode cX9_pass 133 = .ok (.invokevirtual 320, 3) := by decide +kernel
theorem dX9_pass_136 : decode cX9_pass 136 = .ok (.invokevirtual 316, 3) := by decide +kernel
theorem dX9_pass_139 : decode cX9_pass 139 = .ok (.ifCond .eq 7, 3) := by decide +kernel
theorem dX9_pass_142 : decode cX9_pass 142 = .ok (.iconst 0, 1) := by decide +kernel
theorem dX9_pass_143 : decode cX9_pass 143 = .ok (.goto 4, 3) := by decide +kernel
theorem dX9_pass_146 : decode cX9_pass 146 = .ok (.iconst 5, 1) := by decide +kernel
theorem dX9_pass_147 : decode cX9_pass 147 = .ok (.ireturn, 1) := by decide +kernel
theorem dX9_pass_148 : decode cX9_pass 148 = .ok (.iconst 0, 1) := by decide +kernel
theorem dX9_pass_149 : decode cX9_pass 149 = .ok (.istore_n 2, 1) := by decide +kernel
theorem dX9_pass_150 : decode cX9_pass 150 = .ok (.iconst 1, 1) := by decide +kernel
theorem dX9_pass_151 : decode cX9_pass 151 = .ok (.istore_n 3, 1) := by decide +kernel
theorem dX9_pass_152 : decode cX9_pass 152 = .ok (.iconst 0, 1) := by decide +kernel
theorem dX9_pass_153 : decode cX9_pass 153 = .ok (.istore 4, 2) := by decide +kernel
theorem dX9_pass_155 : decode cX9_pass 155 = .ok (.iload 4, 2) := by decide +kernel
theorem dX9_pass_157 : decode cX9_pass 157 = .ok (.aload_n 0, 1) := by decide +kernel
theorem dX9_pass_158 : decode cX9_pass 158 = .ok (.getfield 307, 3) := by decide +kernel
theorem dX9_pass_161 : decode cX9_pass 161 = .ok (.if_icmp .ge 170, 3) := by decide +kernel
theorem dX9_pass_164 : decode cX9_pass 164 = .ok (.aload_n 0, 1) := by decide +kernel
theorem dX9_pass_165 : decode cX9_pass 165 = .ok (.getfield 73, 3) := by decide +kernel
theorem dX9_pass_168 : decode cX9_pass 168 = .ok (.iload 4, 2) := by decide +kernel
theorem dX9_pass_170 : decode cX9_pass 170 = .ok (.iaload, 1) := by decide +kernel
theorem dX9_pass_171 : decode cX9_pass 171 = .ok (.aload_n 0, 1) := by decide +kernel
theorem dX9_pass_172 : decode cX9_pass 172 = .ok (.iload_n 1, 1) := by decide +kernel
theorem dX9_pass_173 : decode cX9_pass 173 = .ok (.iconst 2, 1) := by decide +kernel
theorem dX9_pass_174 : decode cX9_pass 174 = .ok (.invokevirtual 107, 3) := by decide +kernel
theorem dX9_pass_177 : decode cX9_pass 177 = .ok (.if_icmp .ne 7, 3) := by decide +kernel
theorem dX9_pass_180 : decode cX9_pass 180 = .ok (.iconst 1, 1) := by decide +kernel
theorem dX9_pass_181 : decode cX9_pass 181 = .ok (.goto 4, 3) := by decide +kernel
theorem dX9_pass_184 : decode cX9_pass 184 = .ok (.iconst 0, 1) := by decide +kernel
theorem dX9_pass_185 : decode cX9_pass 185 = .ok (.istore 5, 2) := by decide +kernel
theorem dX9_pass_187 : decode cX9_pass 187 = .ok (.iconst 0, 1) := by decide +kernel
theorem dX9_pass_188 : decode cX9_pass 188 = .ok (.istore 6, 2) := by decide +kernel
theorem dX9_pass_190 : decode cX9_pass 190 = .ok (.iload 6, 2) := by decide +kernel
theorem dX9_pass_192 : decode cX9_pass 192 = .ok (.aload_n 0, 1) := by decide +kernel
theorem dX9_pass_193 : decode cX9_pass 193 = .ok (.getfield 73, 3) := by decide +kernel
theorem dX9_pass_196 : decode cX9_pass 196 = .ok (.iload 4, 2) := by decide +kernel
theorem dX9_pass_198 : decode cX9_pass 198 = .ok (.iaload, 1) := by decide +kernel
theorem dX9_pass_199 : decode cX9_pass 199 = .ok (.if_icmp .ge 52, 3) := by decide +kernel
theorem dX9_pass_202 : decode cX9_pass 202 = .ok (.iload 5, 2) := by decide +kernel
theorem dX9_pass_204 : decode cX9_pass 204 = .ok (.ifCond .eq 47, 3) := by decide +kernel
theorem dX9_pass_207 : decode cX9_pass 207 = .ok (.aload_n 0, 1) := by decide +kernel
theorem dX9_pass_208 : decode cX9_pass 208 = .ok (.getfield 70, 3) := by decide +kernel
theorem dX9_pass_211 : decode cX9_pass 211 = .ok (.sipush 300, 3) := by decide +kernel
theorem dX9_pass_214 : decode cX9_pass 214 = .ok (.iload 4, 2) := by decide +kernel
theorem dX9_pass_216 : decode cX9_pass 216 = .ok (.imul, 1) := by decide +kernel
theorem dX9_pass_217 : decode cX9_pass 217 = .ok (.iload 6, 2) := by decide +kernel
theorem dX9_pass_219 : decode cX9_pass 219 = .ok (.iadd, 1) := by decide +kernel
theorem dX9_pass_220 : decode cX9_pass 220 = .ok (.baload, 1) := by decide +kernel
theorem dX9_pass_221 : decode cX9_pass 221 = .ok (.aload_n 0, 1) := by decide +kernel
theorem dX9_pass_222 : decode cX9_pass 222 = .ok (.getfield 37, 3) := by decide +kernel
theorem dX9_pass_225 : decode cX9_pass 225 = .ok (.aload_n 0, 1) := by decide +kernel
theorem dX9_pass_226 : decode cX9_pass 226 = .ok (.iload_n 1, 1) := by decide +kernel
theorem dX9_pass_227 : decode cX9_pass 227 = .ok (.iconst 2, 1) := by decide +kernel
theorem dX9_pass_228 : decode cX9_pass 228 = .ok (.invokevirtual 111, 3) := by decide +kernel
theorem dX9_pass_231 : decode cX9_pass 231 = .ok (.iload 6, 2) := by decide +kernel
theorem dX9_pass_233 : decode cX9_pass 233 = .ok (.iadd, 1) := by decide +kernel
theorem dX9_pass_234 : decode cX9_pass 234 = .ok (.baload, 1) := by decide +kernel
theorem dX9_pass_235 : decode cX9_pass 235 = .ok (.if_icmp .ne 7, 3) := by decide +kernel
theorem dX9_pass_238 : decode cX9_pass 238 = .ok (.iconst 1, 1) := by decide +kernel
theorem dX9_pass_239 : decode cX9_pass 239 = .ok (.goto 4, 3) := by decide +kernel
theorem dX9_pass_242 : decode cX9_pass 242 = .ok (.iconst 0, 1) := by decide +kernel
theorem dX9_pass_243 : decode cX9_pass 243 = .ok (.istore 5, 2) := by decide +kernel
theorem dX9_pass_245 : decode cX9_pass 245 = .ok (.iinc 6 1, 3) := by decide +kernel
theorem dX9_pass_248 : decode cX9_pass 248 = .ok (.goto (-58), 3) := by decide +kernel
theorem dX9_pass_251 : decode cX9_pass 251 = .ok (.iload 5, 2) := by decide +kernel
theorem dX9_pass_253 : decode cX9_pass 253 = .ok (.ifCond .eq 72, 3) := by decide +kernel
theorem dX9_pass_256 : decode cX9_pass 256 = .ok (.iinc 2 1, 3) := by decide +kernel
theorem dX9_pass_259 : decode cX9_pass 259 = .ok (.iload_n 3, 1) := by decide +kernel
theorem dX9_pass_260 : decode cX9_pass 260 = .ok (.ifCond .eq 63, 3) := by decide +kernel
theorem dX9_pass_263 : decode cX9_pass 263 = .ok (.aload_n 0, 1) := by decide +kernel
theorem dX9_pass_264 : decode cX9_pass 264 = .ok (.aload_n 0, 1) := by decide +kernel
theorem dX9_pass_265 : decode cX9_pass 265 = .ok (.getfield 76, 3) := by decide +kernel
theorem dX9_pass_268 : decode cX9_pass 268 = .ok (.iload 4, 2) := by decide +kernel
theorem dX9_pass_270 : decode cX9_pass 270 = .ok (.iaload, 1) := by decide +kernel
theorem dX9_pass_271 : decode cX9_pass 271 = .ok (.aload_n 0, 1) := by decide +kernel
theorem dX9_pass_272 : decode cX9_pass 272 = .ok (.getfield 79, 3) := by decide +kernel
theorem dX9_pass_275 : decode cX9_pass 275 = .ok (.iconst 4, 1) := by decide +kernel
theorem dX9_pass_276 : decode cX9_pass 276 = .ok (.iload 4, 2) := by decide +kernel
theorem dX9_pass_278 : decode cX9_pass 278 = .ok (.imul, 1) := by decide +kernel
theorem dX9_pass_279 : decode cX9_pass 279 = .ok (.iaload, 1) := by decide +kernel
theorem dX9_pass_280 : decode cX9_pass 280 = .ok (.aload_n 0, 1) := by decide +kernel
theorem dX9_pass_281 : decode cX9_pass 281 = .ok (.getfield 79, 3) := by decide +kernel
theorem dX9_pass_284 : decode cX9_pass 284 = .ok (.iconst 4, 1) := by decide +kernel
theorem dX9_pass_285 : decode cX9_pass 285 = .ok (.iload 4, 2) := by decide +kernel
theorem dX9_pass_287 : decode cX9_pass 287 = .ok (.imul, 1) := by decide +kernel
theorem dX9_pass_288 : decode cX9_pass 288 = .ok (.iconst 1, 1) := by decide +kernel
theorem dX9_pass_289 : decode cX9_pass 289 = .ok (.iadd, 1) := by decide +kernel
theorem dX9_pass_290 : decode cX9_pass 290 = .ok (.iaload, 1) := by decide +kernel
theorem dX9_pass_291 : decode cX9_pass 291 = .ok (.aload_n 0, 1) := by decide +kernel
theorem dX9_pass_292 : decode cX9_pass 292 = .ok (.getfield 79, 3) := by decide +kernel
theorem dX9_pass_295 : decode cX9_pass 295 = .ok (.iconst 4, 1) := by decide +kernel
theorem dX9_pass_296 : decode cX9_pass 296 = .ok (.iload 4, 2) := by decide +kernel
theorem dX9_pass_298 : decode cX9_pass 298 = .ok (.imul, 1) := by decide +kernel
theorem dX9_pass_299 : decode cX9_pass 299 = .ok (.iconst 2, 1) := by decide +kernel
theorem dX9_pass_300 : decode cX9_pass 300 = .ok (.iadd, 1) := by decide +kernel
theorem dX9_pass_301 : decode cX9_pass 301 = .ok (.iaload, 1) := by decide +kernel
theorem dX9_pass_302 : decode cX9_pass 302 = .ok (.aload_n 0, 1) := by decide +kernel
theorem dX9_pass_303 : decode cX9_pass 303 = .ok (.getfield 79, 3) := by decide +kernel
theorem dX9_pass_306 : decode cX9_pass 306 = .ok (.iconst 4, 1) := by decide +kernel
theorem dX9_pass_307 : decode cX9_pass 307 = .ok (.iload 4, 2) := by decide +kernel
theorem dX9_pass_309 : decode cX9_pass 309 = .ok (.imul, 1) := by decide +kernel
theorem dX9_pass_310 : decode cX9_pass 310 = .ok (.iconst 3, 1) := by decide +kernel
theorem dX9_pass_311 : decode cX9_pass 311 = .ok (.iadd, 1) := by decide +kernel
theorem dX9_pass_312 : decode cX9_pass 312 = .ok (.iaload, 1) := by decide +kernel
theorem dX9_pass_313 : decode cX9_pass 313 = .ok (.invokevirtual 316, 3) := by decide +kernel
theorem dX9_pass_316 : decode cX9_pass 316 = .ok (.ifCond .eq 7, 3) := by decide +kernel
theorem dX9_pass_319 : decode cX9_pass 319 = .ok (.iconst 1, 1) := by decide +kernel
theorem dX9_pass_320 : decode cX9_pass 320 = .ok (.goto 4, 3) := by decide +kernel
theorem dX9_pass_323 : decode cX9_pass 323 = .ok (.iconst 0, 1) := by decide +kernel
theorem dX9_pass_324 : decode cX9_pass 324 = .ok (.istore_n 3, 1) := by decide +kernel
theorem dX9_pass_325 : decode cX9_pass 325 = .ok (.iinc 4 1, 3) := by decide +kernel
theorem dX9_pass_328 : decode cX9_pass 328 = .ok (.goto (-173), 3) := by decide +kernel
theorem dX9_pass_331 : decode cX9_pass 331 = .ok (.iload_n 2, 1) := by decide +kernel
theorem dX9_pass_332 : decode cX9_pass 332 = .ok (.ifCond .ne 7, 3) := by decide +kernel
theorem dX9_pass_335 : decode cX9_pass 335 = .ok (.iconst 4, 1) := by decide +kernel
theorem dX9_pass_336 : decode cX9_pass 336 = .ok (.goto 12, 3) := by decide +kernel
theorem dX9_pass_339 : decode cX9_pass 339 = .ok (.iload_n 3, 1) := by decide +kernel
theorem dX9_pass_340 : decode cX9_pass 340 = .ok (.ifCond .eq 7, 3) := by decide +kernel
theorem dX9_pass_343 : decode cX9_pass 343 = .ok (.iconst 0, 1) := by decide +kernel
theorem dX9_pass_344 : decode cX9_pass 344 = .ok (.goto 4, 3) := by decide +kernel
theorem dX9_pass_347 : decode cX9_pass 347 = .ok (.iconst 5, 1) := by decide +kernel
theorem dX9_pass_348 : decode cX9_pass 348 = .ok (.ireturn, 1) := by decide +kernel
def f_X9_range_27  (x0 : Option Nat) (x1 : Int32) (x2 : Int32) (x3 : Int32) (x4 : Int32) (x5 : Int32) (x6 : Int32) (s0 : Int32) (s1 : Int32) (s2 : Int32) : gM Int32 := gb (f_X9_isIn s0 s1 s2) fun v1 => if v1 = 0 then (gp (-2)) else (gb (rI 8 34 x0) fun v2 => if v2 = 12 then (gp (-3)) else (gb (rR 8 31 x0) fun v3 => gb (rI 8 34 x0) fun v4 => gb (sI 1 v3 v4 x1) fun _ => gb (rR 8 33 x0) fun v5 => gb (rI 8 34 x0) fun v6 => gb (sI 1 v5 v6 x6) fun _ => gb (rR 8 32 x0) fun v7 => gb (rI 8 34 x0) fun v8 => gb (sI 1 v7 (4 * v8) x2) fun _ => gb (rR 8 32 x0) fun v9 => gb (rI 8 34 x0) fun v10 => gb (sI 1 v9 ((4 * v10) + 1) x3) fun _ => gb (rR 8 32 x0) fun v11 => gb (rI 8 34 x0) fun v12 => gb (sI 1 v11 ((4 * v12) + 2) x4) fun _ => gb (rR 8 32 x0) fun v13 => gb (rI 8 34 x0) fun v14 => gb (sI 1 v13 ((4 * v14) + 3) x5) fun _ => gb (rI 8 34 x0) fun v15 => gb (wI 8 34 x0 (v15 + 1)) fun _ => gb (rI 8 34 x0) fun v16 => gp v16))
def f_X9_range_11  (x0 : Option Nat) (x1 : Int32) (x2 : Int32) (x3 : Int32) (x4 : Int32) (x5 : Int32) (x6 : Int32) : gM Int32 := if x1 = 4 then (f_X9_range_27  x0 x1 x2 x3 x4 x5 x6 x6 0 32) else (f_X9_range_27  x0 x1 x2 x3 x4 x5 x6 x6 0 128)
def f_X9_range  (a0 : Option Nat) (a1 : Int32) (a2 : Int32) (a3 : Int32) (a4 : Int32) (a5 : Int32) (a6 : Int32) : gM Int32 := if a1 = 4 then (f_X9_range_11  a0 a1 a2 a3 a4 a5 a6) else (if a1 = 6 then (f_X9_range_11  a0 a1 a2 a3 a4 a5 a6) else (gp (-2)))
section S_X9_range
variable {G : gX} {p : Program} {l : Launch} {e : Env} {s : State} {m : MethodId} {args : Array Value} {below : List Frame} {meth : Method} {c : Code} {mc ms : Nat} {y : Int32 × gS}
set_option maxHeartbeats 4000000 in
set_option maxRecDepth 100000 in
theorem w_X9_range_27 (C : gC G p s m args meth c cX9_range 7 RX9) (hr : meth.sig.returnType = (some .int))  (x0 : Option Nat) (x1 : Int32) (x2 : Int32) (x3 : Int32) (x4 : Int32) (x5 : Int32) (x6 : Int32) (s0 : Int32) (s1 : Int32) (s2 : Int32) : gJ G p l e 1 22 mc ms s m args below meth c gri y 7 27 [(0, va_rf x0), (1, .int x1), (2, .int x2), (3, .int x3), (4, .int x4), (5, .int x5), (6, .int x6)] [.int s2, .int s1, .int s0] (f_X9_range_27  x0 x1 x2 x3 x4 x5 x6 s0 s1 s2) := by
  have hx := C.1
  have hb := C.2.1
  intro σ H locs cells slots ls hf I hl
  unfold f_X9_range_27 at hf
  refine gw_callS (rest := []) C I hl.1 (m_X9_isIn G l s0 s1 s2) gl_RX9_91 kw_192 ⟨Nat.le_of_ble_eq_true rfl, Nat.le_of_ble_eq_true rfl⟩ rfl (gc4 (Nat.le_of_ble_eq_true rfl)) rfl dX9_range_27 hf (fun v1 σ H locs cells slots I hf => ?_)
  refine W.eq (g2 := F0 m 30 ls [.int v1]) rfl ?_
  refine lv_if_ne (tgt := 36) hx hb dX9_range_30 (by decide) (fun hq => ?_) (fun hq => ?_)
  · have hf := giff hq hf
    refine gw_aload_n hx hb dX9_range_36 rfl (lv_at hl 0 rfl) ?_
    refine gw_geti (k := 34) C I gcls_8 (by decide) rfl kw_222 dX9_range_37 hf (fun v2 hf => ?_)
    refine lv_bipush (v := 12) hx hb dX9_range_40 kc_b_12 ?_
    refine lv_icmp_ne (tgt := 48) hx hb dX9_range_42 (by decide) (fun hq => ?_) (fun hq => ?_)
    · have hf := giff hq hf
      refine gw_aload_n hx hb dX9_range_48 rfl (lv_at hl 0 rfl) ?_
      refine gw_getr (k := 31) C I gcls_8 (by decide) rfl kw_189 dX9_range_49 hf (fun v3 hf => ?_)
      refine gw_aload_n hx hb dX9_range_52 rfl (lv_at hl 0 rfl) ?_
      refine gw_geti (k := 34) C I gcls_8 (by decide) rfl kw_222 dX9_range_53 hf (fun v4 hf => ?_)
      refine lv_iload_n hx hb dX9_range_56 rfl (lv_at hl 1 rfl) ?_
      refine gw_iast C I dX9_range_57 hf (fun σ H locs I hf => ?_)
      refine gw_aload_n hx hb dX9_range_58 rfl (lv_at hl 0 rfl) ?_
      refine gw_getr (k := 33) C I gcls_8 (by decide) rfl kw_191 dX9_range_59 hf (fun v5 hf => ?_)
      refine gw_aload_n hx hb dX9_range_62 rfl (lv_at hl 0 rfl) ?_
      refine gw_geti (k := 34) C I gcls_8 (by decide) rfl kw_222 dX9_range_63 hf (fun v6 hf => ?_)
      refine lv_iload hx hb dX9_range_66 (lv_at hl 6 rfl) ?_
      refine gw_iast C I dX9_range_68 hf (fun σ H locs I hf => ?_)
      refine gw_aload_n hx hb dX9_range_69 rfl (lv_at hl 0 rfl) ?_
      refine gw_getr (k := 32) C I gcls_8 (by decide) rfl kw_190 dX9_range_70 hf (fun v7 hf => ?_)
      refine lv_iconst (v := 4) hx hb dX9_range_73 kc_i_4 ?_
      refine gw_aload_n hx hb dX9_range_74 rfl (lv_at hl 0 rfl) ?_
      refine gw_geti (k := 34) C I gcls_8 (by decide) rfl kw_222 dX9_range_75 hf (fun v8 hf => ?_)
      refine lv_imul hx hb dX9_range_78 ?_
      refine lv_iload_n hx hb dX9_range_79 rfl (lv_at hl 2 rfl) ?_
      refine gw_iast C I dX9_range_80 hf (fun σ H locs I hf => ?_)
      refine gw_aload_n hx hb dX9_range_81 rfl (lv_at hl 0 rfl) ?_
      refine gw_getr (k := 32) C I gcls_8 (by decide) rfl kw_190 dX9_range_82 hf (fun v9 hf => ?_)
      refine lv_iconst (v := 4) hx hb dX9_range_85 kc_i_4 ?_
      refine gw_aload_n hx hb dX9_range_86 rfl (lv_at hl 0 rfl) ?_
      refine gw_geti (k := 34) C I gcls_8 (by decide) rfl kw_222 dX9_range_87 hf (fun v10 hf => ?_)
      refine lv_imul hx hb dX9_range_90 ?_
      refine lv_iconst (v := 1) hx hb dX9_range_91 kc_i_1 ?_
      refine lv_iadd hx hb dX9_range_92 ?_
      refine lv_iload_n hx hb dX9_range_93 rfl (lv_at hl 3 rfl) ?_
      refine gw_iast C I dX9_range_94 hf (fun σ H locs I hf => ?_)
      refine gw_aload_n hx hb dX9_range_95 rfl (lv_at hl 0 rfl) ?_
      refine gw_getr (k := 32) C I gcls_8 (by decide) rfl kw_190 dX9_range_96 hf (fun v11 hf => ?_)
      refine lv_iconst (v := 4) hx hb dX9_range_99 kc_i_4 ?_
      refine gw_aload_n hx hb dX9_range_100 rfl (lv_at hl 0 rfl) ?_
      refine gw_geti (k := 34) C I gcls_8 (by decide) rfl kw_222 dX9_range_101 hf (fun v12 hf => ?_)
      refine lv_imul hx hb dX9_range_104 ?_
      refine lv_iconst (v := 2) hx hb dX9_range_105 kc_i_2 ?_
      refine lv_iadd hx hb dX9_range_106 ?_
      refine lv_iload hx hb dX9_range_107 (lv_at hl 4 rfl) ?_
      refine gw_iast C I dX9_range_109 hf (fun σ H locs I hf => ?_)
      refine gw_aload_n hx hb dX9_range_110 rfl (lv_at hl 0 rfl) ?_
      refine gw_getr (k := 32) C I gcls_8 (by decide) rfl kw_190 dX9_range_111 hf (fun v13 hf => ?_)
      refine lv_iconst (v := 4) hx hb dX9_range_114 kc_i_4 ?_
      refine gw_aload_n hx hb dX9_range_115 rfl (lv_at hl 0 rfl) ?_
      refine gw_geti (k := 34) C I gcls_8 (by decide) rfl kw_222 dX9_range_116 hf (fun v14 hf => ?_)
      refine lv_imul hx hb dX9_range_119 ?_
      refine lv_iconst (v := 3) hx hb dX9_range_120 kc_i_3 ?_
      refine lv_iadd hx hb dX9_range_121 ?_
      refine lv_iload hx hb dX9_range_122 (lv_at hl 5 rfl) ?_
      refine gw_iast C I dX9_range_124 hf (fun σ H locs I hf => ?_)
      refine gw_aload_n hx hb dX9_range_125 rfl (lv_at hl 0 rfl) ?_
      refine lv_dup hx hb dX9_range_126 (grc _) ?_
      refine gw_geti (k := 34) C I gcls_8 (by decide) rfl kw_222 dX9_range_127 hf (fun v15 hf => ?_)
      refine lv_iconst (v := 1) hx hb dX9_range_130 kc_i_1 ?_
      refine lv_iadd hx hb dX9_range_131 ?_
      refine gw_puti (k := 34) C I gcls_8 (by decide) rfl kw_222 (Or.inl rfl) (by decide +kernel) dX9_range_132 hf (fun σ H locs I hf => ?_)
      refine gw_aload_n hx hb dX9_range_135 rfl (lv_at hl 0 rfl) ?_
      refine gw_geti (k := 34) C I gcls_8 (by decide) rfl kw_222 dX9_range_136 hf (fun v16 hf => ?_)
      exact gw_iret C I hr dX9_range_139 hf
    · have hf := gift hq hf
      refine lv_bipush (v := (-3)) hx hb dX9_range_45 kc_b_m3 ?_
      exact gw_iret C I hr dX9_range_47 hf
  · have hf := gift hq hf
    refine lv_bipush (v := (-2)) hx hb dX9_range_33 kc_b_m2 ?_
    exact gw_iret C I hr dX9_range_35 hf
set_option maxHeartbeats 4000000 in
set_option maxRecDepth 100000 in
theorem w_X9_range_11 (C : gC G p s m args meth c cX9_range 7 RX9) (hr : meth.sig.returnType = (some .int))  (x0 : Option Nat) (x1 : Int32) (x2 : Int32) (x3 : Int32) (x4 : Int32) (x5 : Int32) (x6 : Int32) : gJ G p l e 1 22 mc ms s m args below meth c gri y 7 11 [(0, va_rf x0), (1, .int x1), (2, .int x2), (3, .int x3), (4, .int x4), (5, .int x5), (6, .int x6)] [] (f_X9_range_11  x0 x1 x2 x3 x4 x5 x6) := by
  have hx := C.1
  have hb := C.2.1
  intro σ H locs cells slots ls hf I hl
  unfold f_X9_range_11 at hf
  refine lv_iload hx hb dX9_range_11 (lv_at hl 6 rfl) ?_
  refine lv_iconst (v := 0) hx hb dX9_range_13 kc_i_0 ?_
  refine lv_iload_n hx hb dX9_range_14 rfl (lv_at hl 1 rfl) ?_
  refine lv_iconst (v := 4) hx hb dX9_range_15 kc_i_4 ?_
  refine lv_icmp_ne (tgt := 24) hx hb dX9_range_16 (by decide) (fun hq => ?_) (fun hq => ?_)
  · have hf := giff hq hf
    refine lv_sipush (v := 128) hx hb dX9_range_24 kc_s_128 ?_
    exact w_X9_range_27 C hr  x0 x1 x2 x3 x4 x5 x6 x6 0 128 _ _ _ _ _ _ hf I (lv_sub hl [0, 1, 2, 3, 4, 5, 6] rfl)
  · have hf := gift hq hf
    refine lv_bipush (v := 32) hx hb dX9_range_19 kc_b_32 ?_
    refine lv_goto (tgt := 27) hx hb dX9_range_21 (by decide) ?_
    exact w_X9_range_27 C hr  x0 x1 x2 x3 x4 x5 x6 x6 0 32 _ _ _ _ _ _ hf I (lv_sub hl [0, 1, 2, 3, 4, 5, 6] rfl)
set_option maxHeartbeats 4000000 in
set_option maxRecDepth 100000 in
theorem w_X9_range_0 (C : gC G p s m args meth c cX9_range 7 RX9) (hr : meth.sig.returnType = (some .int))  (a0 : Option Nat) (a1 : Int32) (a2 : Int32) (a3 : Int32) (a4 : Int32) (a5 : Int32) (a6 : Int32) : gJ G p l e 1 22 mc ms s m args below meth c gri y 7 0 [(0, va_rf a0), (1, .int a1), (2, .int a2), (3, .int a3), (4, .int a4), (5, .int a5), (6, .int a6)] [] (f_X9_range  a0 a1 a2 a3 a4 a5 a6) := by
  have hx := C.1
  have hb := C.2.1
  intro σ H locs cells slots ls hf I hl
  unfold f_X9_range at hf
  refine lv_iload_n hx hb dX9_range_0 rfl (lv_at hl 1 rfl) ?_
  refine lv_iconst (v := 4) hx hb dX9_range_1 kc_i_4 ?_
  refine lv_icmp_eq (tgt := 11) hx hb dX9_range_2 (by decide) (fun hq => ?_) (fun hq => ?_)
  · have hf := gift hq hf
    exact w_X9_range_11 C hr  a0 a1 a2 a3 a4 a5 a6 _ _ _ _ _ _ hf I (lv_sub hl [0, 1, 2, 3, 4, 5, 6] rfl)
  · have hf := giff hq hf
    refine lv_iload_n hx hb dX9_range_5 rfl (lv_at hl 1 rfl) ?_
    refine lv_bipush (v := 6) hx hb dX9_range_6 kc_b_6 ?_
    refine lv_icmp_ne (tgt := 33) hx hb dX9_range_8 (by decide) (fun hq => ?_) (fun hq => ?_)
    · have hf := giff hq hf
      refine lv_bipush (v := (-2)) hx hb dX9_range_33 kc_b_m2 ?_
      exact gw_iret C I hr dX9_range_35 hf
    · have hf := gift hq hf
      exact w_X9_range_11 C hr  a0 a1 a2 a3 a4 a5 a6 _ _ _ _ _ _ hf I (lv_sub hl [0, 1, 2, 3, 4, 5, 6] rfl)
end S_X9_range
theorem m_X9_range (G : gX) (l : Launch) (a0 : Option Nat) (a1 : Int32) (a2 : Int32) (a3 : Int32) (a4 : Int32) (a5 : Int32) (a6 : Int32) : gMet G l yX9_range cX9_range 7 (some .int) 1 22 [va_rf a0, .int a1, .int a2, .int a3, .int a4, .int a5, .int a6] gri (f_X9_range a0 a1 a2 a3 a4 a5 a6) := by
  refine gMet_of (by decide) ?_
  intro σ y p e s m below meth c mc ms hf C hr hnm I
  obtain ⟨ls, e1, hl⟩ := gentry m [va_rf a0, .int a1, .int a2, .int a3, .int a4, .int a5, .int a6] 7 [(0, va_rf a0), (1, .int a1), (2, .int a2), (3, .int a3), (4, .int a4), (5, .int a5), (6, .int a6)] (by simp [lg_sl, grc, gcat_i, gcat_l]) (by simp [lv_args, grc, gcat_i, gcat_l])
  rw [e1]
  exact w_X9_range_0 C hr a0 a1 a2 a3 a4 a5 a6 _ _ _ _ _ _ hf I hl
def f_X9_clear  (a0 : Option Nat) : gM Int32 := gb (rI 8 25 a0) fun v1 => gb (rI 8 30 a0) fun v2 => gb (rI 8 34 a0) fun v3 => gb (wI 8 25 a0 0) fun _ => gb (wI 8 30 a0 0) fun _ => gb (wI 8 34 a0 0) fun _ => gp ((v1 + v2) + v3)
section S_X9_clear
variable {G : gX} {p : Program} {l : Launch} {e : Env} {s : State} {m : MethodId} {args : Array Value} {below : List Frame} {meth : Method} {c : Code} {mc ms : Nat} {y : Int32 × gS}
set_option maxHeartbeats 4000000 in
set_option maxRecDepth 100000 in
theorem w_X9_clear_0 (C : gC G p s m args meth c cX9_clear 2 RX9) (hr : meth.sig.returnType = (some .int))  (a0 : Option Nat) : gJ G p l e 0 0 mc ms s m args below meth c gri y 2 0 [(0, va_rf a0)] [] (f_X9_clear  a0) := by
  have hx := C.1
  have hb := C.2.1
  intro σ H locs cells slots ls hf I hl
  unfold f_X9_clear at hf
  refine gw_aload_n hx hb dX9_clear_0 rfl (lv_at hl 0 rfl) ?_
  refine gw_geti (k := 25) C I gcls_8 (by decide) rfl kw_220 dX9_clear_1 hf (fun v1 hf => ?_)
  refine gw_aload_n hx hb dX9_clear_4 rfl (lv_at hl 0 rfl) ?_
  refine gw_geti (k := 30) C I gcls_8 (by decide) rfl kw_221 dX9_clear_5 hf (fun v2 hf => ?_)
  refine lv_iadd hx hb dX9_clear_8 ?_
  refine gw_aload_n hx hb dX9_clear_9 rfl (lv_at hl 0 rfl) ?_
  refine gw_geti (k := 34) C I gcls_8 (by decide) rfl kw_222 dX9_clear_10 hf (fun v3 hf => ?_)
  refine lv_iadd hx hb dX9_clear_13 ?_
  refine lv_istore_n (lv' := [(1, .int ((v1 + v2) + v3)), (0, va_rf a0)]) hx hb dX9_clear_14 rfl hl (by decide) (by cases a0 <;> rfl) (fun ls hl => ?_)
  refine gw_aload_n hx hb dX9_clear_15 rfl (lv_at hl 1 rfl) ?_
  refine lv_iconst (v := 0) hx hb dX9_clear_16 kc_i_0 ?_
  refine gw_puti (k := 25) C I gcls_8 (by decide) rfl kw_220 (Or.inl rfl) (by decide +kernel) dX9_clear_17 hf (fun σ H locs I hf => ?_)
  refine gw_aload_n hx hb dX9_clear_20 rfl (lv_at hl 1 rfl) ?_
  refine lv_iconst (v := 0) hx hb dX9_clear_21 kc_i_0 ?_
  refine gw_puti (k := 30) C I gcls_8 (by decide) rfl kw_221 (Or.inl rfl) (by decide +kernel) dX9_clear_22 hf (fun σ H locs I hf => ?_)
  refine gw_aload_n hx hb dX9_clear_25 rfl (lv_at hl 1 rfl) ?_
  refine lv_iconst (v := 0) hx hb dX9_clear_26 kc_i_0 ?_
  refine gw_puti (k := 34) C I gcls_8 (by decide) rfl kw_222 (Or.inl rfl) (by decide +kernel) dX9_clear_27 hf (fun σ H locs I hf => ?_)
  refine lv_iload_n hx hb dX9_clear_30 rfl (lv_at hl 0 rfl) ?_
  exact gw_iret C I hr dX9_clear_31 hf
end S_X9_clear
theorem m_X9_clear (G : gX) (l : Launch) (a0 : Option Nat) : gMet G l yX9_clear cX9_clear 2 (some .int) 0 0 [va_rf a0] gri (f_X9_clear a0) := by
  refine gMet_of (by decide) ?_
  intro σ y p e s m below meth c mc ms hf C hr hnm I
  obtain ⟨ls, e1, hl⟩ := gentry m [va_rf a0] 2 [(0, va_rf a0)] (by simp [lg_sl, grc, gcat_i, gcat_l]) (by simp [lv_args, grc, gcat_i, gcat_l])
  rw [e1]
  exact w_X9_clear_0 C hr a0 _ _ _ _ _ _ hf I hl
def f_X9_isListed_221 (rec9 : Option Nat → Int32 → Int32 → Int32 → gM Int32) (x0 : Option Nat) (x1 : Int32) (x2 : Int32) (x3 : Int32) (x4 : Int32) : gM Int32 := if x4 = 0 then (rec9 x0 x1 x2 (x3 + 1)) else (gz 1)
def f_X9_isListed_161 (rec9 : Option Nat → Int32 → Int32 → Int32 → gM Int32) (rec161 : Option Nat → Int32 → Int32 → Int32 → Int32 → Int32 → Int32 → gM Int32) (x0 : Option Nat) (x1 : Int32) (x2 : Int32) (x3 : Int32) (x4 : Int32) (x5 : Int32) (x6 : Int32) : gM Int32 := if x5 ≤ x6 then (f_X9_isListed_221 rec9 x0 x1 x2 x3 x4) else (if x4 = 0 then (f_X9_isListed_221 rec9 x0 x1 x2 x3 x4) else (gb (rR 8 20 x0) fun v1 => gb (aI 0 v1 ((300 * x3) + x6)) fun v2 => gb (rR 8 9 x0) fun v3 => gb (nn 8 x0) fun _ => gb (f_X9_row x0 x1 2) fun v4 => gb (aI 0 v3 (((v4 + x2) - x5) + x6)) fun v5 => if v2 = v5 then (rec161 x0 x1 x2 x3 1 x5 (x6 + 1)) else (rec161 x0 x1 x2 x3 0 x5 (x6 + 1))))
def f_X9_isListed_L161 (rec9 : Option Nat → Int32 → Int32 → Int32 → gM Int32) : Nat → Option Nat → Int32 → Int32 → Int32 → Int32 → Int32 → Int32 → gM Int32
  | 0, _, _, _, _, _, _, _ => gno
  | n + 1, x0, x1, x2, x3, x4, x5, x6 => f_X9_isListed_161 rec9 (f_X9_isListed_L161 rec9 n) x0 x1 x2 x3 x4 x5 x6
def f_X9_isListed_42 (rec9 : Option Nat → Int32 → Int32 → Int32 → gM Int32) (rec42 : Option Nat → Int32 → Int32 → Int32 → Int32 → Int32 → gM Int32) (x0 : Option Nat) (x1 : Int32) (x2 : Int32) (x3 : Int32) (x4 : Int32) (x5 : Int32) : gM Int32 := if 8 ≤ x5 then (gb (rR 8 21 x0) fun v1 => gb (aI 1 v1 x3) fun v2 => if x4 = 0 then (f_X9_isListed_L161 rec9 gF x0 x1 x2 x3 0 v2 0) else (if x2 = v2 then (f_X9_isListed_L161 rec9 gF x0 x1 x2 x3 1 v2 0) else (gb (rR 8 24 x0) fun v3 => gb (aI 2 v3 x3) fun v4 => if v4 = 0 then (f_X9_isListed_L161 rec9 gF x0 x1 x2 x3 0 v2 0) else (if x2 ≤ v2 then (f_X9_isListed_L161 rec9 gF x0 x1 x2 x3 0 v2 0) else (gb (rR 8 9 x0) fun v5 => gb (nn 8 x0) fun _ => gb (f_X9_row x0 x1 2) fun v6 => gb (aI 0 v5 (((v6 + x2) - v2) - 1)) fun v7 => if v7 = 46 then (f_X9_isListed_L161 rec9 gF x0 x1 x2 x3 1 v2 0) else (f_X9_isListed_L161 rec9 gF x0 x1 x2 x3 0 v2 0)))))) else (if x4 = 0 then (rec42 x0 x1 x2 x3 0 (x5 + 1)) else (gb (rR 8 23 x0) fun v8 => gb (aI 1 v8 ((8 * x3) + x5)) fun v9 => gb (rR 8 6 x0) fun v10 => gb (aI 1 v10 ((8 * x1) + x5)) fun v11 => if v9 = v11 then (rec42 x0 x1 x2 x3 1 (x5 + 1)) else (rec42 x0 x1 x2 x3 0 (x5 + 1))))
def f_X9_isListed_L42 (rec9 : Option Nat → Int32 → Int32 → Int32 → gM Int32) : Nat → Option Nat → Int32 → Int32 → Int32 → Int32 → Int32 → gM Int32
  | 0, _, _, _, _, _, _ => gno
  | n + 1, x0, x1, x2, x3, x4, x5 => f_X9_isListed_42 rec9 (f_X9_isListed_L42 rec9 n) x0 x1 x2 x3 x4 x5
def f_X9_isListed_9 (rec9 : Option Nat → Int32 → Int32 → Int32 → gM Int32) (x0 : Option Nat) (x1 : Int32) (x2 : Int32) (x3 : Int32) : gM Int32 := gb (rI 8 25 x0) fun v1 => if v1 ≤ x3 then (gz 0) else (gb (rR 8 22 x0) fun v2 => gb (aI 1 v2 x3) fun v3 => gb (rR 8 5 x0) fun v4 => gb (aI 1 v4 x1) fun v5 => if v3 = v5 then (f_X9_isListed_L42 rec9 gF x0 x1 x2 x3 1 0) else (f_X9_isListed_L42 rec9 gF x0 x1 x2 x3 0 0))
def f_X9_isListed_L9  : Nat → Option Nat → Int32 → Int32 → Int32 → gM Int32
  | 0, _, _, _, _ => gno
  | n + 1, x0, x1, x2, x3 => f_X9_isListed_9  (f_X9_isListed_L9  n) x0 x1 x2 x3
def f_X9_isListed  (a0 : Option Nat) (a1 : Int32) : gM Int32 := gb (nn 8 a0) fun _ => gb (f_X9_sizeOf a0 a1 2) fun v1 => f_X9_isListed_L9  gF a0 a1 v1 0
section S_X9_isListed
variable {G : gX} {p : Program} {l : Launch} {e : Env} {s : State} {m : MethodId} {args : Array Value} {below : List Frame} {meth : Method} {c : Code} {mc ms : Nat} {y : Int32 × gS}
set_option maxHeartbeats 4000000 in
set_option maxRecDepth 100000 in
theorem w_X9_isListed_221 (C : gC G p s m args meth c cX9_isListed 7 RX9) (hr : meth.sig.returnType = (some .boolean)) {rec9 : Option Nat → Int32 → Int32 → Int32 → gM Int32} (hrec9 : ∀ (x0 : Option Nat) (x1 : Int32) (x2 : Int32) (x3 : Int32), gJ G p l e 1 22 mc ms s m args below meth c gri y 7 9 [(0, va_rf x0), (1, .int x1), (2, .int x2), (3, .int x3)] [] (rec9 x0 x1 x2 x3)) (x0 : Option Nat) (x1 : Int32) (x2 : Int32) (x3 : Int32) (x4 : Int32) : gJ G p l e 1 22 mc ms s m args below meth c gri y 7 221 [(0, va_rf x0), (1, .int x1), (2, .int x2), (3, .int x3), (4, .int x4)] [] (f_X9_isListed_221 rec9 x0 x1 x2 x3 x4) := by
  have hx := C.1
  have hb := C.2.1
  intro σ H locs cells slots ls hf I hl
  unfold f_X9_isListed_221 at hf
  refine lv_iload hx hb dX9_isListed_221 (lv_at hl 4 rfl) ?_
  refine lv_if_eq (tgt := 228) hx hb dX9_isListed_223 (by decide) (fun hq => ?_) (fun hq => ?_)
  · have hf := gift hq hf
    refine lv_iinc (v := x3 + 1) (lv' := [(3, .int (x3 + 1)), (0, va_rf x0), (1, .int x1), (2, .int x2), (4, .int x4)]) hx hb dX9_isListed_228 hl (k := 3) rfl rfl (by decide) rfl (fun ls hl => ?_)
    refine lv_goto (tgt := 9) hx hb dX9_isListed_231 (by decide) ?_
    exact hrec9 x0 x1 x2 (x3 + 1) _ _ _ _ _ _ hf I (lv_sub hl [1, 2, 3, 0] rfl)
  · have hf := giff hq hf
    refine lv_iconst (v := 1) hx hb dX9_isListed_226 kc_i_1 ?_
    exact gw_zret C I hr dX9_isListed_227 hf
set_option maxHeartbeats 4000000 in
set_option maxRecDepth 100000 in
theorem w_X9_isListed_161 (C : gC G p s m args meth c cX9_isListed 7 RX9) (hr : meth.sig.returnType = (some .boolean)) {rec9 : Option Nat → Int32 → Int32 → Int32 → gM Int32} (hrec9 : ∀ (x0 : Option Nat) (x1 : Int32) (x2 : Int32) (x3 : Int32), gJ G p l e 1 22 mc ms s m args below meth c gri y 7 9 [(0, va_rf x0), (1, .int x1), (2, .int x2), (3, .int x3)] [] (rec9 x0 x1 x2 x3)) {rec161 : Option Nat → Int32 → Int32 → Int32 → Int32 → Int32 → Int32 → gM Int32} (hrec161 : ∀ (x0 : Option Nat) (x1 : Int32) (x2 : Int32) (x3 : Int32) (x4 : Int32) (x5 : Int32) (x6 : Int32), gJ G p l e 1 22 mc ms s m args below meth c gri y 7 161 [(0, va_rf x0), (1, .int x1), (2, .int x2), (3, .int x3), (4, .int x4), (5, .int x5), (6, .int x6)] [] (rec161 x0 x1 x2 x3 x4 x5 x6)) (x0 : Option Nat) (x1 : Int32) (x2 : Int32) (x3 : Int32) (x4 : Int32) (x5 : Int32) (x6 : Int32) : gJ G p l e 1 22 mc ms s m args below meth c gri y 7 161 [(0, va_rf x0), (1, .int x1), (2, .int x2), (3, .int x3), (4, .int x4), (5, .int x5), (6, .int x6)] [] (f_X9_isListed_161 rec9 rec161 x0 x1 x2 x3 x4 x5 x6) := by
  have hx := C.1
  have hb := C.2.1
  intro σ H locs cells slots ls hf I hl
  unfold f_X9_isListed_161 at hf
  refine lv_iload hx hb dX9_isListed_161 (lv_at hl 6 rfl) ?_
  refine lv_iload hx hb dX9_isListed_163 (lv_at hl 5 rfl) ?_
  refine lv_icmp_ge (tgt := 221) hx hb dX9_isListed_165 (by decide) (fun hq => ?_) (fun hq => ?_)
  · have hf := gift hq hf
    exact w_X9_isListed_221 C hr hrec9 x0 x1 x2 x3 x4 _ _ _ _ _ _ hf I (lv_sub hl [0, 1, 2, 3, 4] rfl)
  · have hf := giff hq hf
    refine lv_iload hx hb dX9_isListed_168 (lv_at hl 4 rfl) ?_
    refine lv_if_eq (tgt := 221) hx hb dX9_isListed_170 (by decide) (fun hq => ?_) (fun hq => ?_)
    · have hf := gift hq hf
      exact w_X9_isListed_221 C hr hrec9 x0 x1 x2 x3 x4 _ _ _ _ _ _ hf I (lv_sub hl [0, 1, 2, 3, 4] rfl)
    · have hf := giff hq hf
      refine gw_aload_n hx hb dX9_isListed_173 rfl (lv_at hl 0 rfl) ?_
      refine gw_getr (k := 20) C I gcls_8 (by decide) rfl kw_180 dX9_isListed_174 hf (fun v1 hf => ?_)
      refine lv_sipush (v := 300) hx hb dX9_isListed_177 kc_s_300 ?_
      refine lv_iload_n hx hb dX9_isListed_180 rfl (lv_at hl 3 rfl) ?_
      refine lv_imul hx hb dX9_isListed_181 ?_
      refine lv_iload hx hb dX9_isListed_182 (lv_at hl 6 rfl) ?_
      refine lv_iadd hx hb dX9_isListed_184 ?_
      refine gw_bald C I dX9_isListed_185 hf (fun v2 hf => ?_)
      refine gw_aload_n hx hb dX9_isListed_186 rfl (lv_at hl 0 rfl) ?_
      refine gw_getr (k := 9) C I gcls_8 (by decide) rfl kw_174 dX9_isListed_187 hf (fun v3 hf => ?_)
      refine gw_aload_n hx hb dX9_isListed_190 rfl (lv_at hl 0 rfl) ?_
      refine lv_iload_n hx hb dX9_isListed_191 rfl (lv_at hl 1 rfl) ?_
      refine lv_iconst (v := 2) hx hb dX9_isListed_192 kc_i_2 ?_
      refine gw_callV (rest := [va_rf v3, .int v2]) C I hl.1 gcls_8 (m_X9_row G l x0 x1 2) gl_RX9_111 gn_X9_row ⟨Nat.le_of_ble_eq_true rfl, Nat.le_of_ble_eq_true rfl⟩ rfl (gc4 (Nat.le_of_ble_eq_true rfl)) rfl dX9_isListed_193 hf (fun v4 σ H locs cells slots I hf => ?_)
      refine W.eq (g2 := F0 m 196 ls [.int v4, va_rf v3, .int v2]) rfl ?_
      refine lv_iload_n hx hb dX9_isListed_196 rfl (lv_at hl 2 rfl) ?_
      refine lv_iadd hx hb dX9_isListed_197 ?_
      refine lv_iload hx hb dX9_isListed_198 (lv_at hl 5 rfl) ?_
      refine lv_isub hx hb dX9_isListed_200 ?_
      refine lv_iload hx hb dX9_isListed_201 (lv_at hl 6 rfl) ?_
      refine lv_iadd hx hb dX9_isListed_203 ?_
      refine gw_bald C I dX9_isListed_204 hf (fun v5 hf => ?_)
      refine lv_icmp_ne (tgt := 212) hx hb dX9_isListed_205 (by decide) (fun hq => ?_) (fun hq => ?_)
      · have hf := giff hq hf
        refine lv_iconst (v := 0) hx hb dX9_isListed_212 kc_i_0 ?_
        refine lv_istore (lv' := [(4, .int 0), (0, va_rf x0), (1, .int x1), (2, .int x2), (3, .int x3), (5, .int x5), (6, .int x6)]) hx hb dX9_isListed_213 hl (by decide) rfl (fun ls hl => ?_)
        refine lv_iinc (v := x6 + 1) (lv' := [(6, .int (x6 + 1)), (4, .int 0), (0, va_rf x0), (1, .int x1), (2, .int x2), (3, .int x3), (5, .int x5)]) hx hb dX9_isListed_215 hl (k := 6) rfl rfl (by decide) rfl (fun ls hl => ?_)
        refine lv_goto (tgt := 161) hx hb dX9_isListed_218 (by decide) ?_
        exact hrec161 x0 x1 x2 x3 0 x5 (x6 + 1) _ _ _ _ _ _ hf I (lv_sub hl [2, 3, 4, 5, 1, 6, 0] rfl)
      · have hf := gift hq hf
        refine lv_iconst (v := 1) hx hb dX9_isListed_208 kc_i_1 ?_
        refine lv_goto (tgt := 213) hx hb dX9_isListed_209 (by decide) ?_
        refine lv_istore (lv' := [(4, .int 1), (0, va_rf x0), (1, .int x1), (2, .int x2), (3, .int x3), (5, .int x5), (6, .int x6)]) hx hb dX9_isListed_213 hl (by decide) rfl (fun ls hl => ?_)
        refine lv_iinc (v := x6 + 1) (lv' := [(6, .int (x6 + 1)), (4, .int 1), (0, va_rf x0), (1, .int x1), (2, .int x2), (3, .int x3), (5, .int x5)]) hx hb dX9_isListed_215 hl (k := 6) rfl rfl (by decide) rfl (fun ls hl => ?_)
        refine lv_goto (tgt := 161) hx hb dX9_isListed_218 (by decide) ?_
        exact hrec161 x0 x1 x2 x3 1 x5 (x6 + 1) _ _ _ _ _ _ hf I (lv_sub hl [2, 3, 4, 5, 1, 6, 0] rfl)
theorem w_X9_isListed_L161 (C : gC G p s m args meth c cX9_isListed 7 RX9) (hr : meth.sig.returnType = (some .boolean)) {rec9 : Option Nat → Int32 → Int32 → Int32 → gM Int32} (hrec9 : ∀ (x0 : Option Nat) (x1 : Int32) (x2 : Int32) (x3 : Int32), gJ G p l e 1 22 mc ms s m args below meth c gri y 7 9 [(0, va_rf x0), (1, .int x1), (2, .int x2), (3, .int x3)] [] (rec9 x0 x1 x2 x3)) : ∀ (n : Nat) (x0 : Option Nat) (x1 : Int32) (x2 : Int32) (x3 : Int32) (x4 : Int32) (x5 : Int32) (x6 : Int32), gJ G p l e 1 22 mc ms s m args below meth c gri y 7 161 [(0, va_rf x0), (1, .int x1), (2, .int x2), (3, .int x3), (4, .int x4), (5, .int x5), (6, .int x6)] [] (f_X9_isListed_L161 rec9 n x0 x1 x2 x3 x4 x5 x6) := by
  intro n
  induction n with
  | zero => intro x0 x1 x2 x3 x4 x5 x6 σ H locs cells slots ls hf; exact (gno_some hf).elim
  | succ n ih => intro x0 x1 x2 x3 x4 x5 x6; exact w_X9_isListed_161 C hr hrec9 ih x0 x1 x2 x3 x4 x5 x6
set_option maxHeartbeats 4000000 in
set_option maxRecDepth 100000 in
theorem w_X9_isListed_42 (C : gC G p s m args meth c cX9_isListed 7 RX9) (hr : meth.sig.returnType = (some .boolean)) {rec9 : Option Nat → Int32 → Int32 → Int32 → gM Int32} (hrec9 : ∀ (x0 : Option Nat) (x1 : Int32) (x2 : Int32) (x3 : Int32), gJ G p l e 1 22 mc ms s m args below meth c gri y 7 9 [(0, va_rf x0), (1, .int x1), (2, .int x2), (3, .int x3)] [] (rec9 x0 x1 x2 x3)) {rec42 : Option Nat → Int32 → Int32 → Int32 → Int32 → Int32 → gM Int32} (hrec42 : ∀ (x0 : Option Nat) (x1 : Int32) (x2 : Int32) (x3 : Int32) (x4 : Int32) (x5 : Int32), gJ G p l e 1 22 mc ms s m args below meth c gri y 7 42 [(0, va_rf x0), (1, .int x1), (2, .int x2), (3, .int x3), (4, .int x4), (5, .int x5)] [] (rec42 x0 x1 x2 x3 x4 x5)) (x0 : Option Nat) (x1 : Int32) (x2 : Int32) (x3 : Int32) (x4 : Int32) (x5 : Int32) : gJ G p l e 1 22 mc ms s m args below meth c gri y 7 42 [(0, va_rf x0), (1, .int x1), (2, .int x2), (3, .int x3), (4, .int x4), (5, .int x5)] [] (f_X9_isListed_42 rec9 rec42 x0 x1 x2 x3 x4 x5) := by
  have hx := C.1
  have hb := C.2.1
  intro σ H locs cells slots ls hf I hl
  unfold f_X9_isListed_42 at hf
  refine lv_iload hx hb dX9_isListed_42 (lv_at hl 5 rfl) ?_
  refine lv_bipush (v := 8) hx hb dX9_isListed_44 kc_b_8 ?_
  refine lv_icmp_ge (tgt := 94) hx hb dX9_isListed_46 (by decide) (fun hq => ?_) (fun hq => ?_)
  · have hf := gift hq hf
    refine gw_aload_n hx hb dX9_isListed_94 rfl (lv_at hl 0 rfl) ?_
    refine gw_getr (k := 21) C I gcls_8 (by decide) rfl kw_181 dX9_isListed_95 hf (fun v1 hf => ?_)
    refine lv_iload_n hx hb dX9_isListed_98 rfl (lv_at hl 3 rfl) ?_
    refine gw_iald C I dX9_isListed_99 hf (fun v2 hf => ?_)
    refine lv_istore (lv' := [(5, .int v2), (0, va_rf x0), (1, .int x1), (2, .int x2), (3, .int x3), (4, .int x4)]) hx hb dX9_isListed_100 hl (by decide) rfl (fun ls hl => ?_)
    refine lv_iload hx hb dX9_isListed_102 (lv_at hl 5 rfl) ?_
    refine lv_if_eq (tgt := 155) hx hb dX9_isListed_104 (by decide) (fun hq => ?_) (fun hq => ?_)
    · have hf := gift hq hf
      refine lv_iconst (v := 0) hx hb dX9_isListed_155 kc_i_0 ?_
      refine lv_istore (lv' := [(4, .int 0), (5, .int v2), (0, va_rf x0), (1, .int x1), (2, .int x2), (3, .int x3)]) hx hb dX9_isListed_156 hl (by decide) rfl (fun ls hl => ?_)
      refine lv_iconst (v := 0) hx hb dX9_isListed_158 kc_i_0 ?_
      refine lv_istore (lv' := [(6, .int 0), (4, .int 0), (5, .int v2), (0, va_rf x0), (1, .int x1), (2, .int x2), (3, .int x3)]) hx hb dX9_isListed_159 hl (by decide) rfl (fun ls hl => ?_)
      exact w_X9_isListed_L161 C hr hrec9 _ x0 x1 x2 x3 0 v2 0 _ _ _ _ _ _ hf I (lv_sub hl [3, 4, 5, 6, 1, 2, 0] rfl)
    · have hf := giff hq hf
      refine lv_iload_n hx hb dX9_isListed_107 rfl (lv_at hl 3 rfl) ?_
      refine lv_iload hx hb dX9_isListed_108 (lv_at hl 0 rfl) ?_
      refine lv_icmp_eq (tgt := 151) hx hb dX9_isListed_110 (by decide) (fun hq => ?_) (fun hq => ?_)
      · have hf := gift hq hf
        refine lv_iconst (v := 1) hx hb dX9_isListed_151 kc_i_1 ?_
        refine lv_goto (tgt := 156) hx hb dX9_isListed_152 (by decide) ?_
        refine lv_istore (lv' := [(4, .int 1), (5, .int v2), (0, va_rf x0), (1, .int x1), (2, .int x2), (3, .int x3)]) hx hb dX9_isListed_156 hl (by decide) rfl (fun ls hl => ?_)
        refine lv_iconst (v := 0) hx hb dX9_isListed_158 kc_i_0 ?_
        refine lv_istore (lv' := [(6, .int 0), (4, .int 1), (5, .int v2), (0, va_rf x0), (1, .int x1), (2, .int x2), (3, .int x3)]) hx hb dX9_isListed_159 hl (by decide) rfl (fun ls hl => ?_)
        exact w_X9_isListed_L161 C hr hrec9 _ x0 x1 x2 x3 1 v2 0 _ _ _ _ _ _ hf I (lv_sub hl [3, 4, 5, 6, 1, 2, 0] rfl)
      · have hf := giff hq hf
        refine gw_aload_n hx hb dX9_isListed_113 rfl (lv_at hl 1 rfl) ?_
        refine gw_getr (k := 24) C I gcls_8 (by decide) rfl kw_184 dX9_isListed_114 hf (fun v3 hf => ?_)
        refine lv_iload_n hx hb dX9_isListed_117 rfl (lv_at hl 4 rfl) ?_
        refine gw_zald C I dX9_isListed_118 hf (fun v4 hf => ?_)
        refine lv_if_eq (tgt := 155) hx hb dX9_isListed_119 (by decide) (fun hq => ?_) (fun hq => ?_)
        · have hf := gift hq hf
          refine lv_iconst (v := 0) hx hb dX9_isListed_155 kc_i_0 ?_
          refine lv_istore (lv' := [(4, .int 0), (5, .int v2), (0, va_rf x0), (1, .int x1), (2, .int x2), (3, .int x3)]) hx hb dX9_isListed_156 hl (by decide) rfl (fun ls hl => ?_)
          refine lv_iconst (v := 0) hx hb dX9_isListed_158 kc_i_0 ?_
          refine lv_istore (lv' := [(6, .int 0), (4, .int 0), (5, .int v2), (0, va_rf x0), (1, .int x1), (2, .int x2), (3, .int x3)]) hx hb dX9_isListed_159 hl (by decide) rfl (fun ls hl => ?_)
          exact w_X9_isListed_L161 C hr hrec9 _ x0 x1 x2 x3 0 v2 0 _ _ _ _ _ _ hf I (lv_sub hl [3, 4, 5, 6, 1, 2, 0] rfl)
        · have hf := giff hq hf
          refine lv_iload_n hx hb dX9_isListed_122 rfl (lv_at hl 3 rfl) ?_
          refine lv_iload hx hb dX9_isListed_123 (lv_at hl 0 rfl) ?_
          refine lv_icmp_le (tgt := 155) hx hb dX9_isListed_125 (by decide) (fun hq => ?_) (fun hq => ?_)
          · have hf := gift hq hf
            refine lv_iconst (v := 0) hx hb dX9_isListed_155 kc_i_0 ?_
            refine lv_istore (lv' := [(4, .int 0), (5, .int v2), (0, va_rf x0), (1, .int x1), (2, .int x2), (3, .int x3)]) hx hb dX9_isListed_156 hl (by decide) rfl (fun ls hl => ?_)
            refine lv_iconst (v := 0) hx hb dX9_isListed_158 kc_i_0 ?_
            refine lv_istore (lv' := [(6, .int 0), (4, .int 0), (5, .int v2), (0, va_rf x0), (1, .int x1), (2, .int x2), (3, .int x3)]) hx hb dX9_isListed_159 hl (by decide) rfl (fun ls hl => ?_)
            exact w_X9_isListed_L161 C hr hrec9 _ x0 x1 x2 x3 0 v2 0 _ _ _ _ _ _ hf I (lv_sub hl [3, 4, 5, 6, 1, 2, 0] rfl)
          · have hf := giff hq hf
            refine gw_aload_n hx hb dX9_isListed_128 rfl (lv_at hl 1 rfl) ?_
            refine gw_getr (k := 9) C I gcls_8 (by decide) rfl kw_174 dX9_isListed_129 hf (fun v5 hf => ?_)
            refine gw_aload_n hx hb dX9_isListed_132 rfl (lv_at hl 1 rfl) ?_
            refine lv_iload_n hx hb dX9_isListed_133 rfl (lv_at hl 2 rfl) ?_
            refine lv_iconst (v := 2) hx hb dX9_isListed_134 kc_i_2 ?_
            refine gw_callV (rest := [va_rf v5]) C I hl.1 gcls_8 (m_X9_row G l x0 x1 2) gl_RX9_111 gn_X9_row ⟨Nat.le_of_ble_eq_true rfl, Nat.le_of_ble_eq_true rfl⟩ rfl (gc4 (Nat.le_of_ble_eq_true rfl)) rfl dX9_isListed_135 hf (fun v6 σ H locs cells slots I hf => ?_)
            refine W.eq (g2 := F0 m 138 ls [.int v6, va_rf v5]) rfl ?_
            refine lv_iload_n hx hb dX9_isListed_138 rfl (lv_at hl 3 rfl) ?_
            refine lv_iadd hx hb dX9_isListed_139 ?_
            refine lv_iload hx hb dX9_isListed_140 (lv_at hl 0 rfl) ?_
            refine lv_isub hx hb dX9_isListed_142 ?_
            refine lv_iconst (v := 1) hx hb dX9_isListed_143 kc_i_1 ?_
            refine lv_isub hx hb dX9_isListed_144 ?_
            refine gw_bald C I dX9_isListed_145 hf (fun v7 hf => ?_)
            refine lv_bipush (v := 46) hx hb dX9_isListed_146 kc_b_46 ?_
            refine lv_icmp_ne (tgt := 155) hx hb dX9_isListed_148 (by decide) (fun hq => ?_) (fun hq => ?_)
            · have hf := giff hq hf
              refine lv_iconst (v := 0) hx hb dX9_isListed_155 kc_i_0 ?_
              refine lv_istore (lv' := [(4, .int 0), (5, .int v2), (0, va_rf x0), (1, .int x1), (2, .int x2), (3, .int x3)]) hx hb dX9_isListed_156 hl (by decide) rfl (fun ls hl => ?_)
              refine lv_iconst (v := 0) hx hb dX9_isListed_158 kc_i_0 ?_
              refine lv_istore (lv' := [(6, .int 0), (4, .int 0), (5, .int v2), (0, va_rf x0), (1, .int x1), (2, .int x2), (3, .int x3)]) hx hb dX9_isListed_159 hl (by decide) rfl (fun ls hl => ?_)
              exact w_X9_isListed_L161 C hr hrec9 _ x0 x1 x2 x3 0 v2 0 _ _ _ _ _ _ hf I (lv_sub hl [3, 4, 5, 6, 1, 2, 0] rfl)
            · have hf := gift hq hf
              refine lv_iconst (v := 1) hx hb dX9_isListed_151 kc_i_1 ?_
              refine lv_goto (tgt := 156) hx hb dX9_isListed_152 (by decide) ?_
              refine lv_istore (lv' := [(4, .int 1), (5, .int v2), (0, va_rf x0), (1, .int x1), (2, .int x2), (3, .int x3)]) hx hb dX9_isListed_156 hl (by decide) rfl (fun ls hl => ?_)
              refine lv_iconst (v := 0) hx hb dX9_isListed_158 kc_i_0 ?_
              refine lv_istore (lv' := [(6, .int 0), (4, .int 1), (5, .int v2), (0, va_rf x0), (1, .int x1), (2, .int x2), (3, .int x3)]) hx hb dX9_isListed_159 hl (by decide) rfl (fun ls hl => ?_)
              exact w_X9_isListed_L161 C hr hrec9 _ x0 x1 x2 x3 1 v2 0 _ _ _ _ _ _ hf I (lv_sub hl [3, 4, 5, 6, 1, 2, 0] rfl)
  · have hf := giff hq hf
    refine lv_iload hx hb dX9_isListed_49 (lv_at hl 4 rfl) ?_
    refine lv_if_eq (tgt := 85) hx hb dX9_isListed_51 (by decide) (fun hq => ?_) (fun hq => ?_)
    · have hf := gift hq hf
      refine lv_iconst (v := 0) hx hb dX9_isListed_85 kc_i_0 ?_
      refine lv_istore (lv' := [(4, .int 0), (0, va_rf x0), (1, .int x1), (2, .int x2), (3, .int x3), (5, .int x5)]) hx hb dX9_isListed_86 hl (by decide) rfl (fun ls hl => ?_)
      refine lv_iinc (v := x5 + 1) (lv' := [(5, .int (x5 + 1)), (4, .int 0), (0, va_rf x0), (1, .int x1), (2, .int x2), (3, .int x3)]) hx hb dX9_isListed_88 hl (k := 5) rfl rfl (by decide) rfl (fun ls hl => ?_)
      refine lv_goto (tgt := 42) hx hb dX9_isListed_91 (by decide) ?_
      exact hrec42 x0 x1 x2 x3 0 (x5 + 1) _ _ _ _ _ _ hf I (lv_sub hl [2, 3, 4, 5, 1, 0] rfl)
    · have hf := giff hq hf
      refine gw_aload_n hx hb dX9_isListed_54 rfl (lv_at hl 0 rfl) ?_
      refine gw_getr (k := 23) C I gcls_8 (by decide) rfl kw_183 dX9_isListed_55 hf (fun v8 hf => ?_)
      refine lv_bipush (v := 8) hx hb dX9_isListed_58 kc_b_8 ?_
      refine lv_iload_n hx hb dX9_isListed_60 rfl (lv_at hl 3 rfl) ?_
      refine lv_imul hx hb dX9_isListed_61 ?_
      refine lv_iload hx hb dX9_isListed_62 (lv_at hl 5 rfl) ?_
      refine lv_iadd hx hb dX9_isListed_64 ?_
      refine gw_iald C I dX9_isListed_65 hf (fun v9 hf => ?_)
      refine gw_aload_n hx hb dX9_isListed_66 rfl (lv_at hl 0 rfl) ?_
      refine gw_getr (k := 6) C I gcls_8 (by decide) rfl kw_170 dX9_isListed_67 hf (fun v10 hf => ?_)
      refine lv_bipush (v := 8) hx hb dX9_isListed_70 kc_b_8 ?_
      refine lv_iload_n hx hb dX9_isListed_72 rfl (lv_at hl 1 rfl) ?_
      refine lv_imul hx hb dX9_isListed_73 ?_
      refine lv_iload hx hb dX9_isListed_74 (lv_at hl 5 rfl) ?_
      refine lv_iadd hx hb dX9_isListed_76 ?_
      refine gw_iald C I dX9_isListed_77 hf (fun v11 hf => ?_)
      refine lv_icmp_ne (tgt := 85) hx hb dX9_isListed_78 (by decide) (fun hq => ?_) (fun hq => ?_)
      · have hf := giff hq hf
        refine lv_iconst (v := 0) hx hb dX9_isListed_85 kc_i_0 ?_
        refine lv_istore (lv' := [(4, .int 0), (0, va_rf x0), (1, .int x1), (2, .int x2), (3, .int x3), (5, .int x5)]) hx hb dX9_isListed_86 hl (by decide) rfl (fun ls hl => ?_)
        refine lv_iinc (v := x5 + 1) (lv' := [(5, .int (x5 + 1)), (4, .int 0), (0, va_rf x0), (1, .int x1), (2, .int x2), (3, .int x3)]) hx hb dX9_isListed_88 hl (k := 5) rfl rfl (by decide) rfl (fun ls hl => ?_)
        refine lv_goto (tgt := 42) hx hb dX9_isListed_91 (by decide) ?_
        exact hrec42 x0 x1 x2 x3 0 (x5 + 1) _ _ _ _ _ _ hf I (lv_sub hl [2, 3, 4, 5, 1, 0] rfl)
      · have hf := gift hq hf
        refine lv_iconst (v := 1) hx hb dX9_isListed_81 kc_i_1 ?_
        refine lv_goto (tgt := 86) hx hb dX9_isListed_82 (by decide) ?_
        refine lv_istore (lv' := [(4, .int 1), (0, va_rf x0), (1, .int x1), (2, .int x2), (3, .int x3), (5, .int x5)]) hx hb dX9_isListed_86 hl (by decide) rfl (fun ls hl => ?_)
        refine lv_iinc (v := x5 + 1) (lv' := [(5, .int (x5 + 1)), (4, .int 1), (0, va_rf x0), (1, .int x1), (2, .int x2), (3, .int x3)]) hx hb dX9_isListed_88 hl (k := 5) rfl rfl (by decide) rfl (fun ls hl => ?_)
        refine lv_goto (tgt := 42) hx hb dX9_isListed_91 (by decide) ?_
        exact hrec42 x0 x1 x2 x3 1 (x5 + 1) _ _ _ _ _ _ hf I (lv_sub hl [2, 3, 4, 5, 1, 0] rfl)
theorem w_X9_isListed_L42 (C : gC G p s m args meth c cX9_isListed 7 RX9) (hr : meth.sig.returnType = (some .boolean)) {rec9 : Option Nat → Int32 → Int32 → Int32 → gM Int32} (hrec9 : ∀ (x0 : Option Nat) (x1 : Int32) (x2 : Int32) (x3 : Int32), gJ G p l e 1 22 mc ms s m args below meth c gri y 7 9 [(0, va_rf x0), (1, .int x1), (2, .int x2), (3, .int x3)] [] (rec9 x0 x1 x2 x3)) : ∀ (n : Nat) (x0 : Option Nat) (x1 : Int32) (x2 : Int32) (x3 : Int32) (x4 : Int32) (x5 : Int32), gJ G p l e 1 22 mc ms s m args below meth c gri y 7 42 [(0, va_rf x0), (1, .int x1), (2, .int x2), (3, .int x3), (4, .int x4), (5, .int x5)] [] (f_X9_isListed_L42 rec9 n x0 x1 x2 x3 x4 x5) := by
  intro n
  induction n with
  | zero => intro x0 x1 x2 x3 x4 x5 σ H locs cells slots ls hf; exact (gno_some hf).elim
  | succ n ih => intro x0 x1 x2 x3 x4 x5; exact w_X9_isListed_42 C hr hrec9 ih x0 x1 x2 x3 x4 x5
set_option maxHeartbeats 4000000 in
set_option maxRecDepth 100000 in
theorem w_X9_isListed_9 (C : gC G p s m args meth c cX9_isListed 7 RX9) (hr : meth.sig.returnType = (some .boolean)) {rec9 : Option Nat → Int32 → Int32 → Int32 → gM Int32} (hrec9 : ∀ (x0 : Option Nat) (x1 : Int32) (x2 : Int32) (x3 : Int32), gJ G p l e 1 22 mc ms s m args below meth c gri y 7 9 [(0, va_rf x0), (1, .int x1), (2, .int x2), (3, .int x3)] [] (rec9 x0 x1 x2 x3)) (x0 : Option Nat) (x1 : Int32) (x2 : Int32) (x3 : Int32) : gJ G p l e 1 22 mc ms s m args below meth c gri y 7 9 [(0, va_rf x0), (1, .int x1), (2, .int x2), (3, .int x3)] [] (f_X9_isListed_9 rec9 x0 x1 x2 x3) := by
  have hx := C.1
  have hb := C.2.1
  intro σ H locs cells slots ls hf I hl
  unfold f_X9_isListed_9 at hf
  refine lv_iload_n hx hb dX9_isListed_9 rfl (lv_at hl 3 rfl) ?_
  refine gw_aload_n hx hb dX9_isListed_10 rfl (lv_at hl 0 rfl) ?_
  refine gw_geti (k := 25) C I gcls_8 (by decide) rfl kw_220 dX9_isListed_11 hf (fun v1 hf => ?_)
  refine lv_icmp_ge (tgt := 234) hx hb dX9_isListed_14 (by decide) (fun hq => ?_) (fun hq => ?_)
  · have hf := gift hq hf
    refine lv_iconst (v := 0) hx hb dX9_isListed_234 kc_i_0 ?_
    exact gw_zret C I hr dX9_isListed_235 hf
  · have hf := giff hq hf
    refine gw_aload_n hx hb dX9_isListed_17 rfl (lv_at hl 0 rfl) ?_
    refine gw_getr (k := 22) C I gcls_8 (by decide) rfl kw_182 dX9_isListed_18 hf (fun v2 hf => ?_)
    refine lv_iload_n hx hb dX9_isListed_21 rfl (lv_at hl 3 rfl) ?_
    refine gw_iald C I dX9_isListed_22 hf (fun v3 hf => ?_)
    refine gw_aload_n hx hb dX9_isListed_23 rfl (lv_at hl 0 rfl) ?_
    refine gw_getr (k := 5) C I gcls_8 (by decide) rfl kw_169 dX9_isListed_24 hf (fun v4 hf => ?_)
    refine lv_iload_n hx hb dX9_isListed_27 rfl (lv_at hl 1 rfl) ?_
    refine gw_iald C I dX9_isListed_28 hf (fun v5 hf => ?_)
    refine lv_icmp_ne (tgt := 36) hx hb dX9_isListed_29 (by decide) (fun hq => ?_) (fun hq => ?_)
    · have hf := giff hq hf
      refine lv_iconst (v := 0) hx hb dX9_isListed_36 kc_i_0 ?_
      refine lv_istore (lv' := [(4, .int 0), (0, va_rf x0), (1, .int x1), (2, .int x2), (3, .int x3)]) hx hb dX9_isListed_37 hl (by decide) rfl (fun ls hl => ?_)
      refine lv_iconst (v := 0) hx hb dX9_isListed_39 kc_i_0 ?_
      refine lv_istore (lv' := [(5, .int 0), (4, .int 0), (0, va_rf x0), (1, .int x1), (2, .int x2), (3, .int x3)]) hx hb dX9_isListed_40 hl (by decide) rfl (fun ls hl => ?_)
      exact w_X9_isListed_L42 C hr hrec9 _ x0 x1 x2 x3 0 0 _ _ _ _ _ _ hf I (lv_sub hl [2, 3, 4, 5, 1, 0] rfl)
    · have hf := gift hq hf
      refine lv_iconst (v := 1) hx hb dX9_isListed_32 kc_i_1 ?_
      refine lv_goto (tgt := 37) hx hb dX9_isListed_33 (by decide) ?_
      refine lv_istore (lv' := [(4, .int 1), (0, va_rf x0), (1, .int x1), (2, .int x2), (3, .int x3)]) hx hb dX9_isListed_37 hl (by decide) rfl (fun ls hl => ?_)
      refine lv_iconst (v := 0) hx hb dX9_isListed_39 kc_i_0 ?_
      refine lv_istore (lv' := [(5, .int 0), (4, .int 1), (0, va_rf x0), (1, .int x1), (2, .int x2), (3, .int x3)]) hx hb dX9_isListed_40 hl (by decide) rfl (fun ls hl => ?_)
      exact w_X9_isListed_L42 C hr hrec9 _ x0 x1 x2 x3 1 0 _ _ _ _ _ _ hf I (lv_sub hl [2, 3, 4, 5, 1, 0] rfl)
theorem w_X9_isListed_L9 (C : gC G p s m args meth c cX9_isListed 7 RX9) (hr : meth.sig.returnType = (some .boolean))  : ∀ (n : Nat) (x0 : Option Nat) (x1 : Int32) (x2 : Int32) (x3 : Int32), gJ G p l e 1 22 mc ms s m args below meth c gri y 7 9 [(0, va_rf x0), (1, .int x1), (2, .int x2), (3, .int x3)] [] (f_X9_isListed_L9  n x0 x1 x2 x3) := by
  intro n
  induction n with
  | zero => intro x0 x1 x2 x3 σ H locs cells slots ls hf; exact (gno_some hf).elim
  | succ n ih => intro x0 x1 x2 x3; exact w_X9_isListed_9 C hr  ih x0 x1 x2 x3
set_option maxHeartbeats 4000000 in
set_option maxRecDepth 100000 in
theorem w_X9_isListed_0 (C : gC G p s m args meth c cX9_isListed 7 RX9) (hr : meth.sig.returnType = (some .boolean))  (a0 : Option Nat) (a1 : Int32) : gJ G p l e 1 22 mc ms s m args below meth c gri y 7 0 [(0, va_rf a0), (1, .int a1)] [] (f_X9_isListed  a0 a1) := by
  have hx := C.1
  have hb := C.2.1
  intro σ H locs cells slots ls hf I hl
  unfold f_X9_isListed at hf
  refine gw_aload_n hx hb dX9_isListed_0 rfl (lv_at hl 0 rfl) ?_
  refine lv_iload_n hx hb dX9_isListed_1 rfl (lv_at hl 1 rfl) ?_
  refine lv_iconst (v := 2) hx hb dX9_isListed_2 kc_i_2 ?_
  refine gw_callV (rest := []) C I hl.1 gcls_8 (m_X9_sizeOf G l a0 a1 2) gl_RX9_107 gn_X9_sizeOf ⟨Nat.le_of_ble_eq_true rfl, Nat.le_of_ble_eq_true rfl⟩ rfl (gc4 (Nat.le_of_ble_eq_true rfl)) rfl dX9_isListed_3 hf (fun v1 σ H locs cells slots I hf => ?_)
  refine W.eq (g2 := F0 m 6 ls [.int v1]) rfl ?_
  refine lv_istore_n (lv' := [(2, .int v1), (0, va_rf a0), (1, .int a1)]) hx hb dX9_isListed_6 rfl hl (by decide) rfl (fun ls hl => ?_)
  refine lv_iconst (v := 0) hx hb dX9_isListed_7 kc_i_0 ?_
  refine lv_istore_n (lv' := [(3, .int 0), (2, .int v1), (0, va_rf a0), (1, .int a1)]) hx hb dX9_isListed_8 rfl hl (by decide) rfl (fun ls hl => ?_)
  exact w_X9_isListed_L9 C hr  _ a0 a1 v1 0 _ _ _ _ _ _ hf I (lv_sub hl [2, 3, 1, 0] rfl)
end S_X9_isListed
theorem m_X9_isListed (G : gX) (l : Launch) (a0 : Option Nat) (a1 : Int32) : gMet G l yX9_isListed cX9_isListed 7 (some .boolean) 1 22 [va_rf a0, .int a1] gri (f_X9_isListed a0 a1) := by
  refine gMet_of (by decide) ?_
  intro σ y p e s m below meth c mc ms hf C hr hnm I
  obtain ⟨ls, e1, hl⟩ := gentry m [va_rf a0, .int a1] 7 [(0, va_rf a0), (1, .int a1)] (by simp [lg_sl, grc, gcat_i, gcat_l]) (by simp [lv_args, grc, gcat_i, gcat_l])
  rw [e1]
  exact w_X9_isListed_0 C hr a0 a1 _ _ _ _ _ _ hf I hl
def f_X9_isInRange_144 (rec56 : Option Nat → Int32 → Int32 → Int32 → Int32 → Int32 → Int32 → gM Int32) (rec87 : Option Nat → Int32 → Int32 → Int32 → Int32 → Int32 → Int32 → Int32 → Int32 → gM Int32) (x0 : Option Nat) (x3 : Int32) (x4 : Int32) (x5 : Int32) (x7 : Int32) (x8 : Int32) (x9 : Int32) (x11 : Int32) (x12 : Int32) (s0 : Int32) : gM Int32 := gb (nz 32) fun _ => gb (rR 8 32 x0) fun v1 => gb (aI 1 v1 ((4 * x9) + x12)) fun v2 => gb (nz 32) fun _ => if ((s0 >>> ((31 - (x11 - x11 / 32 * 32)) &&& 31)) &&& 1) = ((v2 >>> ((31 - (x11 - x11 / 32 * 32)) &&& 31)) &&& 1) then (rec87 x0 x3 x4 x5 x7 x8 x9 1 (x11 + 1)) else (rec87 x0 x3 x4 x5 x7 x8 x9 0 (x11 + 1))
def f_X9_isInRange_198 (rec56 : Option Nat → Int32 → Int32 → Int32 → Int32 → Int32 → Int32 → gM Int32) (x0 : Option Nat) (x3 : Int32) (x4 : Int32) (x5 : Int32) (x7 : Int32) (x8 : Int32) (x9 : Int32) (x10 : Int32) : gM Int32 := if x10 = 0 then (rec56 x0 x3 x4 x5 x7 x8 (x9 + 1)) else (gz 1)
def f_X9_isInRange_87 (rec56 : Option Nat → Int32 → Int32 → Int32 → Int32 → Int32 → Int32 → gM Int32) (rec87 : Option Nat → Int32 → Int32 → Int32 → Int32 → Int32 → Int32 → Int32 → Int32 → gM Int32) (x0 : Option Nat) (x3 : Int32) (x4 : Int32) (x5 : Int32) (x7 : Int32) (x8 : Int32) (x9 : Int32) (x10 : Int32) (x11 : Int32) : gM Int32 := gb (rR 8 33 x0) fun v1 => gb (aI 1 v1 x9) fun v2 => if v2 ≤ x11 then (f_X9_isInRange_198 rec56 x0 x3 x4 x5 x7 x8 x9 x10) else (if x10 = 0 then (f_X9_isInRange_198 rec56 x0 x3 x4 x5 x7 x8 x9 x10) else (gb (nz 32) fun _ => if (x11 / 32) = 0 then (f_X9_isInRange_144 rec56 rec87 x0 x3 x4 x5 x7 x8 x9 x11 (x11 / 32) x8) else (if (x11 / 32) = 1 then (f_X9_isInRange_144 rec56 rec87 x0 x3 x4 x5 x7 x8 x9 x11 (x11 / 32) x3) else (if (x11 / 32) = 2 then (f_X9_isInRange_144 rec56 rec87 x0 x3 x4 x5 x7 x8 x9 x11 (x11 / 32) x4) else (f_X9_isInRange_144 rec56 rec87 x0 x3 x4 x5 x7 x8 x9 x11 (x11 / 32) x5)))))
def f_X9_isInRange_L87 (rec56 : Option Nat → Int32 → Int32 → Int32 → Int32 → Int32 → Int32 → gM Int32) : Nat → Option Nat → Int32 → Int32 → Int32 → Int32 → Int32 → Int32 → Int32 → Int32 → gM Int32
  | 0, _, _, _, _, _, _, _, _, _ => gno
  | n + 1, x0, x3, x4, x5, x7, x8, x9, x10, x11 => f_X9_isInRange_87 rec56 (f_X9_isInRange_L87 rec56 n) x0 x3 x4 x5 x7 x8 x9 x10 x11
def f_X9_isInRange_56 (rec56 : Option Nat → Int32 → Int32 → Int32 → Int32 → Int32 → Int32 → gM Int32) (x0 : Option Nat) (x3 : Int32) (x4 : Int32) (x5 : Int32) (x7 : Int32) (x8 : Int32) (x9 : Int32) : gM Int32 := gb (rI 8 34 x0) fun v1 => if v1 ≤ x9 then (gz 0) else (gb (rR 8 31 x0) fun v2 => gb (aI 1 v2 x9) fun v3 => if v3 = x7 then (f_X9_isInRange_L87 rec56 gF x0 x3 x4 x5 x7 x8 x9 1 0) else (f_X9_isInRange_L87 rec56 gF x0 x3 x4 x5 x7 x8 x9 0 0))
def f_X9_isInRange_L56  : Nat → Option Nat → Int32 → Int32 → Int32 → Int32 → Int32 → Int32 → gM Int32
  | 0, _, _, _, _, _, _, _ => gno
  | n + 1, x0, x3, x4, x5, x7, x8, x9 => f_X9_isInRange_56  (f_X9_isInRange_L56  n) x0 x3 x4 x5 x7 x8 x9
def f_X9_isInRange_38  (x0 : Option Nat) (x2 : Int32) (x3 : Int32) (x4 : Int32) (x5 : Int32) (x6 : Int32) (s0 : Int32) : gM Int32 := if x6 = 0 then (f_X9_isInRange_L56  gF x0 x3 x4 x5 s0 x2 0) else (f_X9_isInRange_L56  gF x0 x3 x4 x5 s0 x5 0)
def f_X9_isInRange_26  (x0 : Option Nat) (x1 : Int32) (x2 : Int32) (x3 : Int32) (x4 : Int32) (x5 : Int32) (s0 : Int32) : gM Int32 := if s0 = 0 then (f_X9_isInRange_38  x0 x2 x3 x4 x5 s0 x1) else (f_X9_isInRange_38  x0 x2 x3 x4 x5 s0 4)
def f_X9_isInRange_25  (x0 : Option Nat) (x1 : Int32) (x2 : Int32) (x3 : Int32) (x4 : Int32) (x5 : Int32) : gM Int32 := f_X9_isInRange_26  x0 x1 x2 x3 x4 x5 0
def f_X9_isInRange  (a0 : Option Nat) (a1 : Int32) (a2 : Int32) (a3 : Int32) (a4 : Int32) (a5 : Int32) : gM Int32 := if a1 = 6 then (if a2 = 0 then (if a3 = 0 then (if a4 = 65535 then (f_X9_isInRange_26  a0 a1 a2 a3 a4 a5 1) else (f_X9_isInRange_25  a0 a1 a2 a3 a4 a5)) else (f_X9_isInRange_25  a0 a1 a2 a3 a4 a5)) else (f_X9_isInRange_25  a0 a1 a2 a3 a4 a5)) else (f_X9_isInRange_25  a0 a1 a2 a3 a4 a5)
section S_X9_isInRange
variable {G : gX} {p : Program} {l : Launch} {e : Env} {s : State} {m : MethodId} {args : Array Value} {below : List Frame} {meth : Method} {c : Code} {mc ms : Nat} {y : Int32 × gS}
set_option maxHeartbeats 4000000 in
set_option maxRecDepth 100000 in
theorem w_X9_isInRange_144 (C : gC G p s m args meth c cX9_isInRange 14 RX9) (hr : meth.sig.returnType = (some .boolean)) {rec56 : Option Nat → Int32 → Int32 → Int32 → Int32 → Int32 → Int32 → gM Int32} (hrec56 : ∀ (x0 : Option Nat) (x3 : Int32) (x4 : Int32) (x5 : Int32) (x7 : Int32) (x8 : Int32) (x9 : Int32), gJ G p l e 0 0 mc ms s m args below meth c gri y 14 56 [(0, va_rf x0), (3, .int x3), (4, .int x4), (5, .int x5), (7, .int x7), (8, .int x8), (9, .int x9)] [] (rec56 x0 x3 x4 x5 x7 x8 x9)) {rec87 : Option Nat → Int32 → Int32 → Int32 → Int32 → Int32 → Int32 → Int32 → Int32 → gM Int32} (hrec87 : ∀ (x0 : Option Nat) (x3 : Int32) (x4 : Int32) (x5 : Int32) (x7 : Int32) (x8 : Int32) (x9 : Int32) (x10 : Int32) (x11 : Int32), gJ G p l e 0 0 mc ms s m args below meth c gri y 14 87 [(0, va_rf x0), (3, .int x3), (4, .int x4), (5, .int x5), (7, .int x7), (8, .int x8), (9, .int x9), (10, .int x10), (11, .int x11)] [] (rec87 x0 x3 x4 x5 x7 x8 x9 x10 x11)) (x0 : Option Nat) (x3 : Int32) (x4 : Int32) (x5 : Int32) (x7 : Int32) (x8 : Int32) (x9 : Int32) (x11 : Int32) (x12 : Int32) (s0 : Int32) : gJ G p l e 0 0 mc ms s m args below meth c gri y 14 144 [(0, va_rf x0), (3, .int x3), (4, .int x4), (5, .int x5), (7, .int x7), (8, .int x8), (9, .int x9), (11, .int x11), (12, .int x12)] [.int s0] (f_X9_isInRange_144 rec56 rec87 x0 x3 x4 x5 x7 x8 x9 x11 x12 s0) := by
  have hx := C.1
  have hb := C.2.1
  intro σ H locs cells slots ls hf I hl
  unfold f_X9_isInRange_144 at hf
  refine lv_istore (lv' := [(13, .int s0), (0, va_rf x0), (3, .int x3), (4, .int x4), (5, .int x5), (7, .int x7), (8, .int x8), (9, .int x9), (11, .int x11), (12, .int x12)]) hx hb dX9_isInRange_144 hl (by decide) rfl (fun ls hl => ?_)
  refine lv_iload hx hb dX9_isInRange_146 (lv_at hl 0 rfl) ?_
  refine lv_bipush (v := 31) hx hb dX9_isInRange_148 kc_b_31 ?_
  refine lv_iload hx hb dX9_isInRange_150 (lv_at hl 8 rfl) ?_
  refine lv_bipush (v := 32) hx hb dX9_isInRange_152 kc_b_32 ?_
  refine gw_irem hx hb dX9_isInRange_154 hf (fun hf => ?_)
  refine lv_isub hx hb dX9_isInRange_155 ?_
  refine lv_ishr hx hb dX9_isInRange_156 ?_
  refine lv_iconst (v := 1) hx hb dX9_isInRange_157 kc_i_1 ?_
  refine lv_iand hx hb dX9_isInRange_158 ?_
  refine gw_aload_n hx hb dX9_isInRange_159 rfl (lv_at hl 1 rfl) ?_
  refine gw_getr (k := 32) C I gcls_8 (by decide) rfl kw_190 dX9_isInRange_160 hf (fun v1 hf => ?_)
  refine lv_iconst (v := 4) hx hb dX9_isInRange_163 kc_i_4 ?_
  refine lv_iload hx hb dX9_isInRange_164 (lv_at hl 7 rfl) ?_
  refine lv_imul hx hb dX9_isInRange_166 ?_
  refine lv_iload hx hb dX9_isInRange_167 (lv_at hl 9 rfl) ?_
  refine lv_iadd hx hb dX9_isInRange_169 ?_
  refine gw_iald C I dX9_isInRange_170 hf (fun v2 hf => ?_)
  refine lv_bipush (v := 31) hx hb dX9_isInRange_171 kc_b_31 ?_
  refine lv_iload hx hb dX9_isInRange_173 (lv_at hl 8 rfl) ?_
  refine lv_bipush (v := 32) hx hb dX9_isInRange_175 kc_b_32 ?_
  refine gw_irem hx hb dX9_isInRange_177 hf (fun hf => ?_)
  refine lv_isub hx hb dX9_isInRange_178 ?_
  refine lv_ishr hx hb dX9_isInRange_179 ?_
  refine lv_iconst (v := 1) hx hb dX9_isInRange_180 kc_i_1 ?_
  refine lv_iand hx hb dX9_isInRange_181 ?_
  refine lv_icmp_ne (tgt := 189) hx hb dX9_isInRange_182 (by decide) (fun hq => ?_) (fun hq => ?_)
  · have hf := giff hq hf
    refine lv_iconst (v := 0) hx hb dX9_isInRange_189 kc_i_0 ?_
    refine lv_istore (lv' := [(10, .int 0), (13, .int s0), (0, va_rf x0), (3, .int x3), (4, .int x4), (5, .int x5), (7, .int x7), (8, .int x8), (9, .int x9), (11, .int x11), (12, .int x12)]) hx hb dX9_isInRange_190 hl (by decide) rfl (fun ls hl => ?_)
    refine lv_iinc (v := x11 + 1) (lv' := [(11, .int (x11 + 1)), (10, .int 0), (13, .int s0), (0, va_rf x0), (3, .int x3), (4, .int x4), (5, .int x5), (7, .int x7), (8, .int x8), (9, .int x9), (12, .int x12)]) hx hb dX9_isInRange_192 hl (k := 9) rfl rfl (by decide) rfl (fun ls hl => ?_)
    refine lv_goto (tgt := 87) hx hb dX9_isInRange_195 (by decide) ?_
    exact hrec87 x0 x3 x4 x5 x7 x8 x9 0 (x11 + 1) _ _ _ _ _ _ hf I (lv_sub hl [3, 4, 5, 6, 7, 8, 9, 1, 0] rfl)
  · have hf := gift hq hf
    refine lv_iconst (v := 1) hx hb dX9_isInRange_185 kc_i_1 ?_
    refine lv_goto (tgt := 190) hx hb dX9_isInRange_186 (by decide) ?_
    refine lv_istore (lv' := [(10, .int 1), (13, .int s0), (0, va_rf x0), (3, .int x3), (4, .int x4), (5, .int x5), (7, .int x7), (8, .int x8), (9, .int x9), (11, .int x11), (12, .int x12)]) hx hb dX9_isInRange_190 hl (by decide) rfl (fun ls hl => ?_)
    refine lv_iinc (v := x11 + 1) (lv' := [(11, .int (x11 + 1)), (10, .int 1), (13, .int s0), (0, va_rf x0), (3, .int x3), (4, .int x4), (5, .int x5), (7, .int x7), (8, .int x8), (9, .int x9), (12, .int x12)]) hx hb dX9_isInRange_192 hl (k := 9) rfl rfl (by decide) rfl (fun ls hl => ?_)
    refine lv_goto (tgt := 87) hx hb dX9_isInRange_195 (by decide) ?_
    exact hrec87 x0 x3 x4 x5 x7 x8 x9 1 (x11 + 1) _ _ _ _ _ _ hf I (lv_sub hl [3, 4, 5, 6, 7, 8, 9, 1, 0] rfl)
set_option maxHeartbeats 4000000 in
set_option maxRecDepth 100000 in
theorem w_X9_isInRange_198 (C : gC G p s m args meth c cX9_isInRange 14 RX9) (hr : meth.sig.returnType = (some .boolean)) {rec56 : Option Nat → Int32 → Int32 → Int32 → Int32 → Int32 → Int32 → gM Int32} (hrec56 : ∀ (x0 : Option Nat) (x3 : Int32) (x4 : Int32) (x5 : Int32) (x7 : Int32) (x8 : Int32) (x9 : Int32), gJ G p l e 0 0 mc ms s m args below meth c gri y 14 56 [(0, va_rf x0), (3, .int x3), (4, .int x4), (5, .int x5), (7, .int x7), (8, .int x8), (9, .int x9)] [] (rec56 x0 x3 x4 x5 x7 x8 x9)) (x0 : Option Nat) (x3 : Int32) (x4 : Int32) (x5 : Int32) (x7 : Int32) (x8 : Int32) (x9 : Int32) (x10 : Int32) : gJ G p l e 0 0 mc ms s m args below meth c gri y 14 198 [(0, va_rf x0), (3, .int x3), (4, .int x4), (5, .int x5), (7, .int x7), (8, .int x8), (9, .int x9), (10, .int x10)] [] (f_X9_isInRange_198 rec56 x0 x3 x4 x5 x7 x8 x9 x10) := by
  have hx := C.1
  have hb := C.2.1
  intro σ H locs cells slots ls hf I hl
  unfold f_X9_isInRange_198 at hf
  refine lv_iload hx hb dX9_isInRange_198 (lv_at hl 7 rfl) ?_
  refine lv_if_eq (tgt := 205) hx hb dX9_isInRange_200 (by decide) (fun hq => ?_) (fun hq => ?_)
  · have hf := gift hq hf
    refine lv_iinc (v := x9 + 1) (lv' := [(9, .int (x9 + 1)), (0, va_rf x0), (3, .int x3), (4, .int x4), (5, .int x5), (7, .int x7), (8, .int x8), (10, .int x10)]) hx hb dX9_isInRange_205 hl (k := 6) rfl rfl (by decide) rfl (fun ls hl => ?_)
    refine lv_goto (tgt := 56) hx hb dX9_isInRange_208 (by decide) ?_
    exact hrec56 x0 x3 x4 x5 x7 x8 (x9 + 1) _ _ _ _ _ _ hf I (lv_sub hl [1, 2, 3, 4, 5, 6, 0] rfl)
  · have hf := giff hq hf
    refine lv_iconst (v := 1) hx hb dX9_isInRange_203 kc_i_1 ?_
    exact gw_zret C I hr dX9_isInRange_204 hf
set_option maxHeartbeats 4000000 in
set_option maxRecDepth 100000 in
theorem w_X9_isInRange_87 (C : gC G p s m args meth c cX9_isInRange 14 RX9) (hr : meth.sig.returnType = (some .boolean)) {rec56 : Option Nat → Int32 → Int32 → Int32 → Int32 → Int32 → Int32 → gM Int32} (hrec56 : ∀ (x0 : Option Nat) (x3 : Int32) (x4 : Int32) (x5 : Int32) (x7 : Int32) (x8 : Int32) (x9 : Int32), gJ G p l e 0 0 mc ms s m args below meth c gri y 14 56 [(0, va_rf x0), (3, .int x3), (4, .int x4), (5, .int x5), (7, .int x7), (8, .int x8), (9, .int x9)] [] (rec56 x0 x3 x4 x5 x7 x8 x9)) {rec87 : Option Nat → Int32 → Int32 → Int32 → Int32 → Int32 → Int32 → Int32 → Int32 → gM Int32} (hrec87 : ∀ (x0 : Option Nat) (x3 : Int32) (x4 : Int32) (x5 : Int32) (x7 : Int32) (x8 : Int32) (x9 : Int32) (x10 : Int32) (x11 : Int32), gJ G p l e 0 0 mc ms s m args below meth c gri y 14 87 [(0, va_rf x0), (3, .int x3), (4, .int x4), (5, .int x5), (7, .int x7), (8, .int x8), (9, .int x9), (10, .int x10), (11, .int x11)] [] (rec87 x0 x3 x4 x5 x7 x8 x9 x10 x11)) (x0 : Option Nat) (x3 : Int32) (x4 : Int32) (x5 : Int32) (x7 : Int32) (x8 : Int32) (x9 : Int32) (x10 : Int32) (x11 : Int32) : gJ G p l e 0 0 mc ms s m args below meth c gri y 14 87 [(0, va_rf x0), (3, .int x3), (4, .int x4), (5, .int x5), (7, .int x7), (8, .int x8), (9, .int x9), (10, .int x10), (11, .int x11)] [] (f_X9_isInRange_87 rec56 rec87 x0 x3 x4 x5 x7 x8 x9 x10 x11) := by
  have hx := C.1
  have hb := C.2.1
  intro σ H locs cells slots ls hf I hl
  unfold f_X9_isInRange_87 at hf
  refine lv_iload hx hb dX9_isInRange_87 (lv_at hl 8 rfl) ?_
  refine gw_aload_n hx hb dX9_isInRange_89 rfl (lv_at hl 0 rfl) ?_
  refine gw_getr (k := 33) C I gcls_8 (by decide) rfl kw_191 dX9_isInRange_90 hf (fun v1 hf => ?_)
  refine lv_iload hx hb dX9_isInRange_93 (lv_at hl 6 rfl) ?_
  refine gw_iald C I dX9_isInRange_95 hf (fun v2 hf => ?_)
  refine lv_icmp_ge (tgt := 198) hx hb dX9_isInRange_96 (by decide) (fun hq => ?_) (fun hq => ?_)
  · have hf := gift hq hf
    exact w_X9_isInRange_198 C hr hrec56 x0 x3 x4 x5 x7 x8 x9 x10 _ _ _ _ _ _ hf I (lv_sub hl [0, 1, 2, 3, 4, 5, 6, 7] rfl)
  · have hf := giff hq hf
    refine lv_iload hx hb dX9_isInRange_99 (lv_at hl 7 rfl) ?_
    refine lv_if_eq (tgt := 198) hx hb dX9_isInRange_101 (by decide) (fun hq => ?_) (fun hq => ?_)
    · have hf := gift hq hf
      exact w_X9_isInRange_198 C hr hrec56 x0 x3 x4 x5 x7 x8 x9 x10 _ _ _ _ _ _ hf I (lv_sub hl [0, 1, 2, 3, 4, 5, 6, 7] rfl)
    · have hf := giff hq hf
      refine lv_iload hx hb dX9_isInRange_104 (lv_at hl 8 rfl) ?_
      refine lv_bipush (v := 32) hx hb dX9_isInRange_106 kc_b_32 ?_
      refine gw_idiv hx hb dX9_isInRange_108 hf (fun hf => ?_)
      refine lv_istore (lv' := [(12, .int (x11 / 32)), (0, va_rf x0), (3, .int x3), (4, .int x4), (5, .int x5), (7, .int x7), (8, .int x8), (9, .int x9), (10, .int x10), (11, .int x11)]) hx hb dX9_isInRange_109 hl (by decide) rfl (fun ls hl => ?_)
      refine lv_iload hx hb dX9_isInRange_111 (lv_at hl 0 rfl) ?_
      refine lv_if_ne (tgt := 121) hx hb dX9_isInRange_113 (by decide) (fun hq => ?_) (fun hq => ?_)
      · have hf := giff hq hf
        refine lv_iload hx hb dX9_isInRange_121 (lv_at hl 0 rfl) ?_
        refine lv_iconst (v := 1) hx hb dX9_isInRange_123 kc_i_1 ?_
        refine lv_icmp_ne (tgt := 131) hx hb dX9_isInRange_124 (by decide) (fun hq => ?_) (fun hq => ?_)
        · have hf := giff hq hf
          refine lv_iload hx hb dX9_isInRange_131 (lv_at hl 0 rfl) ?_
          refine lv_iconst (v := 2) hx hb dX9_isInRange_133 kc_i_2 ?_
          refine lv_icmp_ne (tgt := 142) hx hb dX9_isInRange_134 (by decide) (fun hq => ?_) (fun hq => ?_)
          · have hf := giff hq hf
            refine lv_iload hx hb dX9_isInRange_142 (lv_at hl 4 rfl) ?_
            exact w_X9_isInRange_144 C hr hrec56 hrec87 x0 x3 x4 x5 x7 x8 x9 x11 (x11 / 32) x5 _ _ _ _ _ _ hf I (lv_sub hl [1, 2, 3, 4, 5, 6, 7, 9, 0] rfl)
          · have hf := gift hq hf
            refine lv_iload hx hb dX9_isInRange_137 (lv_at hl 3 rfl) ?_
            refine lv_goto (tgt := 144) hx hb dX9_isInRange_139 (by decide) ?_
            exact w_X9_isInRange_144 C hr hrec56 hrec87 x0 x3 x4 x5 x7 x8 x9 x11 (x11 / 32) x4 _ _ _ _ _ _ hf I (lv_sub hl [1, 2, 3, 4, 5, 6, 7, 9, 0] rfl)
        · have hf := gift hq hf
          refine lv_iload_n hx hb dX9_isInRange_127 rfl (lv_at hl 2 rfl) ?_
          refine lv_goto (tgt := 144) hx hb dX9_isInRange_128 (by decide) ?_
          exact w_X9_isInRange_144 C hr hrec56 hrec87 x0 x3 x4 x5 x7 x8 x9 x11 (x11 / 32) x3 _ _ _ _ _ _ hf I (lv_sub hl [1, 2, 3, 4, 5, 6, 7, 9, 0] rfl)
      · have hf := gift hq hf
        refine lv_iload hx hb dX9_isInRange_116 (lv_at hl 6 rfl) ?_
        refine lv_goto (tgt := 144) hx hb dX9_isInRange_118 (by decide) ?_
        exact w_X9_isInRange_144 C hr hrec56 hrec87 x0 x3 x4 x5 x7 x8 x9 x11 (x11 / 32) x8 _ _ _ _ _ _ hf I (lv_sub hl [1, 2, 3, 4, 5, 6, 7, 9, 0] rfl)
theorem w_X9_isInRange_L87 (C : gC G p s m args meth c cX9_isInRange 14 RX9) (hr : meth.sig.returnType = (some .boolean)) {rec56 : Option Nat → Int32 → Int32 → Int32 → Int32 → Int32 → Int32 → gM Int32} (hrec56 : ∀ (x0 : Option Nat) (x3 : Int32) (x4 : Int32) (x5 : Int32) (x7 : Int32) (x8 : Int32) (x9 : Int32), gJ G p l e 0 0 mc ms s m args below meth c gri y 14 56 [(0, va_rf x0), (3, .int x3), (4, .int x4), (5, .int x5), (7, .int x7), (8, .int x8), (9, .int x9)] [] (rec56 x0 x3 x4 x5 x7 x8 x9)) : ∀ (n : Nat) (x0 : Option Nat) (x3 : Int32) (x4 : Int32) (x5 : Int32) (x7 : Int32) (x8 : Int32) (x9 : Int32) (x10 : Int32) (x11 : Int32), gJ G p l e 0 0 mc ms s m args below meth c gri y 14 87 [(0, va_rf x0), (3, .int x3), (4, .int x4), (5, .int x5), (7, .int x7), (8, .int x8), (9, .int x9), (10, .int x10), (11, .int x11)] [] (f_X9_isInRange_L87 rec56 n x0 x3 x4 x5 x7 x8 x9 x10 x11) := by
  intro n
  induction n with
  | zero => intro x0 x3 x4 x5 x7 x8 x9 x10 x11 σ H locs cells slots ls hf; exact (gno_some hf).elim
  | succ n ih => intro x0 x3 x4 x5 x7 x8 x9 x10 x11; exact w_X9_isInRange_87 C hr hrec56 ih x0 x3 x4 x5 x7 x8 x9 x10 x11
set_option maxHeartbeats 4000000 in
set_option maxRecDepth 100000 in
theorem w_X9_isInRange_56 (C : gC G p s m args meth c cX9_isInRange 14 RX9) (hr : meth.sig.returnType = (some .boolean)) {rec56 : Option Nat → Int32 → Int32 → Int32 → Int32 → Int32 → Int32 → gM Int32} (hrec56 : ∀ (x0 : Option Nat) (x3 : Int32) (x4 : Int32) (x5 : Int32) (x7 : Int32) (x8 : Int32) (x9 : Int32), gJ G p l e 0 0 mc ms s m args below meth c gri y 14 56 [(0, va_rf x0), (3, .int x3), (4, .int x4), (5, .int x5), (7, .int x7), (8, .int x8), (9, .int x9)] [] (rec56 x0 x3 x4 x5 x7 x8 x9)) (x0 : Option Nat) (x3 : Int32) (x4 : Int32) (x5 : Int32) (x7 : Int32) (x8 : Int32) (x9 : Int32) : gJ G p l e 0 0 mc ms s m args below meth c gri y 14 56 [(0, va_rf x0), (3, .int x3), (4, .int x4), (5, .int x5), (7, .int x7), (8, .int x8), (9, .int x9)] [] (f_X9_isInRange_56 rec56 x0 x3 x4 x5 x7 x8 x9) := by
  have hx := C.1
  have hb := C.2.1
  intro σ H locs cells slots ls hf I hl
  unfold f_X9_isInRange_56 at hf
  refine lv_iload hx hb dX9_isInRange_56 (lv_at hl 6 rfl) ?_
  refine gw_aload_n hx hb dX9_isInRange_58 rfl (lv_at hl 0 rfl) ?_
  refine gw_geti (k := 34) C I gcls_8 (by decide) rfl kw_222 dX9_isInRange_59 hf (fun v1 hf => ?_)
  refine lv_icmp_ge (tgt := 211) hx hb dX9_isInRange_62 (by decide) (fun hq => ?_) (fun hq => ?_)
  · have hf := gift hq hf
    refine lv_iconst (v := 0) hx hb dX9_isInRange_211 kc_i_0 ?_
    exact gw_zret C I hr dX9_isInRange_212 hf
  · have hf := giff hq hf
    refine gw_aload_n hx hb dX9_isInRange_65 rfl (lv_at hl 0 rfl) ?_
    refine gw_getr (k := 31) C I gcls_8 (by decide) rfl kw_189 dX9_isInRange_66 hf (fun v2 hf => ?_)
    refine lv_iload hx hb dX9_isInRange_69 (lv_at hl 6 rfl) ?_
    refine gw_iald C I dX9_isInRange_71 hf (fun v3 hf => ?_)
    refine lv_iload hx hb dX9_isInRange_72 (lv_at hl 4 rfl) ?_
    refine lv_icmp_ne (tgt := 81) hx hb dX9_isInRange_74 (by decide) (fun hq => ?_) (fun hq => ?_)
    · have hf := giff hq hf
      refine lv_iconst (v := 0) hx hb dX9_isInRange_81 kc_i_0 ?_
      refine lv_istore (lv' := [(10, .int 0), (0, va_rf x0), (3, .int x3), (4, .int x4), (5, .int x5), (7, .int x7), (8, .int x8), (9, .int x9)]) hx hb dX9_isInRange_82 hl (by decide) rfl (fun ls hl => ?_)
      refine lv_iconst (v := 0) hx hb dX9_isInRange_84 kc_i_0 ?_
      refine lv_istore (lv' := [(11, .int 0), (10, .int 0), (0, va_rf x0), (3, .int x3), (4, .int x4), (5, .int x5), (7, .int x7), (8, .int x8), (9, .int x9)]) hx hb dX9_isInRange_85 hl (by decide) rfl (fun ls hl => ?_)
      exact w_X9_isInRange_L87 C hr hrec56 _ x0 x3 x4 x5 x7 x8 x9 0 0 _ _ _ _ _ _ hf I (lv_sub hl [2, 3, 4, 5, 6, 7, 8, 1, 0] rfl)
    · have hf := gift hq hf
      refine lv_iconst (v := 1) hx hb dX9_isInRange_77 kc_i_1 ?_
      refine lv_goto (tgt := 82) hx hb dX9_isInRange_78 (by decide) ?_
      refine lv_istore (lv' := [(10, .int 1), (0, va_rf x0), (3, .int x3), (4, .int x4), (5, .int x5), (7, .int x7), (8, .int x8), (9, .int x9)]) hx hb dX9_isInRange_82 hl (by decide) rfl (fun ls hl => ?_)
      refine lv_iconst (v := 0) hx hb dX9_isInRange_84 kc_i_0 ?_
      refine lv_istore (lv' := [(11, .int 0), (10, .int 1), (0, va_rf x0), (3, .int x3), (4, .int x4), (5, .int x5), (7, .int x7), (8, .int x8), (9, .int x9)]) hx hb dX9_isInRange_85 hl (by decide) rfl (fun ls hl => ?_)
      exact w_X9_isInRange_L87 C hr hrec56 _ x0 x3 x4 x5 x7 x8 x9 1 0 _ _ _ _ _ _ hf I (lv_sub hl [2, 3, 4, 5, 6, 7, 8, 1, 0] rfl)
theorem w_X9_isInRange_L56 (C : gC G p s m args meth c cX9_isInRange 14 RX9) (hr : meth.sig.returnType = (some .boolean))  : ∀ (n : Nat) (x0 : Option Nat) (x3 : Int32) (x4 : Int32) (x5 : Int32) (x7 : Int32) (x8 : Int32) (x9 : Int32), gJ G p l e 0 0 mc ms s m args below meth c gri y 14 56 [(0, va_rf x0), (3, .int x3), (4, .int x4), (5, .int x5), (7, .int x7), (8, .int x8), (9, .int x9)] [] (f_X9_isInRange_L56  n x0 x3 x4 x5 x7 x8 x9) := by
  intro n
  induction n with
  | zero => intro x0 x3 x4 x5 x7 x8 x9 σ H locs cells slots ls hf; exact (gno_some hf).elim
  | succ n ih => intro x0 x3 x4 x5 x7 x8 x9; exact w_X9_isInRange_56 C hr  ih x0 x3 x4 x5 x7 x8 x9
set_option maxHeartbeats 4000000 in
set_option maxRecDepth 100000 in
theorem w_X9_isInRange_38 (C : gC G p s m args meth c cX9_isInRange 14 RX9) (hr : meth.sig.returnType = (some .boolean))  (x0 : Option Nat) (x2 : Int32) (x3 : Int32) (x4 : Int32) (x5 : Int32) (x6 : Int32) (s0 : Int32) : gJ G p l e 0 0 mc ms s m args below meth c gri y 14 38 [(0, va_rf x0), (2, .int x2), (3, .int x3), (4, .int x4), (5, .int x5), (6, .int x6)] [.int s0] (f_X9_isInRange_38  x0 x2 x3 x4 x5 x6 s0) := by
  have hx := C.1
  have hb := C.2.1
  intro σ H locs cells slots ls hf I hl
  unfold f_X9_isInRange_38 at hf
  refine lv_istore (lv' := [(7, .int s0), (0, va_rf x0), (2, .int x2), (3, .int x3), (4, .int x4), (5, .int x5), (6, .int x6)]) hx hb dX9_isInRange_38 hl (by decide) rfl (fun ls hl => ?_)
  refine lv_iload hx hb dX9_isInRange_40 (lv_at hl 6 rfl) ?_
  refine lv_if_eq (tgt := 50) hx hb dX9_isInRange_42 (by decide) (fun hq => ?_) (fun hq => ?_)
  · have hf := gift hq hf
    refine lv_iload_n hx hb dX9_isInRange_50 rfl (lv_at hl 2 rfl) ?_
    refine lv_istore (lv' := [(8, .int x2), (7, .int s0), (0, va_rf x0), (2, .int x2), (3, .int x3), (4, .int x4), (5, .int x5), (6, .int x6)]) hx hb dX9_isInRange_51 hl (by decide) rfl (fun ls hl => ?_)
    refine lv_iconst (v := 0) hx hb dX9_isInRange_53 kc_i_0 ?_
    refine lv_istore (lv' := [(9, .int 0), (8, .int x2), (7, .int s0), (0, va_rf x0), (2, .int x2), (3, .int x3), (4, .int x4), (5, .int x5), (6, .int x6)]) hx hb dX9_isInRange_54 hl (by decide) rfl (fun ls hl => ?_)
    exact w_X9_isInRange_L56 C hr  _ x0 x3 x4 x5 s0 x2 0 _ _ _ _ _ _ hf I (lv_sub hl [3, 5, 6, 7, 2, 1, 0] rfl)
  · have hf := giff hq hf
    refine lv_iload hx hb dX9_isInRange_45 (lv_at hl 5 rfl) ?_
    refine lv_goto (tgt := 51) hx hb dX9_isInRange_47 (by decide) ?_
    refine lv_istore (lv' := [(8, .int x5), (7, .int s0), (0, va_rf x0), (2, .int x2), (3, .int x3), (4, .int x4), (5, .int x5), (6, .int x6)]) hx hb dX9_isInRange_51 hl (by decide) rfl (fun ls hl => ?_)
    refine lv_iconst (v := 0) hx hb dX9_isInRange_53 kc_i_0 ?_
    refine lv_istore (lv' := [(9, .int 0), (8, .int x5), (7, .int s0), (0, va_rf x0), (2, .int x2), (3, .int x3), (4, .int x4), (5, .int x5), (6, .int x6)]) hx hb dX9_isInRange_54 hl (by decide) rfl (fun ls hl => ?_)
    exact w_X9_isInRange_L56 C hr  _ x0 x3 x4 x5 s0 x5 0 _ _ _ _ _ _ hf I (lv_sub hl [3, 5, 6, 7, 2, 1, 0] rfl)
set_option maxHeartbeats 4000000 in
set_option maxRecDepth 100000 in
theorem w_X9_isInRange_26 (C : gC G p s m args meth c cX9_isInRange 14 RX9) (hr : meth.sig.returnType = (some .boolean))  (x0 : Option Nat) (x1 : Int32) (x2 : Int32) (x3 : Int32) (x4 : Int32) (x5 : Int32) (s0 : Int32) : gJ G p l e 0 0 mc ms s m args below meth c gri y 14 26 [(0, va_rf x0), (1, .int x1), (2, .int x2), (3, .int x3), (4, .int x4), (5, .int x5)] [.int s0] (f_X9_isInRange_26  x0 x1 x2 x3 x4 x5 s0) := by
  have hx := C.1
  have hb := C.2.1
  intro σ H locs cells slots ls hf I hl
  unfold f_X9_isInRange_26 at hf
  refine lv_istore (lv' := [(6, .int s0), (0, va_rf x0), (1, .int x1), (2, .int x2), (3, .int x3), (4, .int x4), (5, .int x5)]) hx hb dX9_isInRange_26 hl (by decide) rfl (fun ls hl => ?_)
  refine lv_iload hx hb dX9_isInRange_28 (lv_at hl 0 rfl) ?_
  refine lv_if_eq (tgt := 37) hx hb dX9_isInRange_30 (by decide) (fun hq => ?_) (fun hq => ?_)
  · have hf := gift hq hf
    refine lv_iload_n hx hb dX9_isInRange_37 rfl (lv_at hl 2 rfl) ?_
    exact w_X9_isInRange_38 C hr  x0 x2 x3 x4 x5 s0 x1 _ _ _ _ _ _ hf I (lv_sub hl [1, 3, 4, 5, 6, 0] rfl)
  · have hf := giff hq hf
    refine lv_iconst (v := 4) hx hb dX9_isInRange_33 kc_i_4 ?_
    refine lv_goto (tgt := 38) hx hb dX9_isInRange_34 (by decide) ?_
    exact w_X9_isInRange_38 C hr  x0 x2 x3 x4 x5 s0 4 _ _ _ _ _ _ hf I (lv_sub hl [1, 3, 4, 5, 6, 0] rfl)
set_option maxHeartbeats 4000000 in
set_option maxRecDepth 100000 in
theorem w_X9_isInRange_25 (C : gC G p s m args meth c cX9_isInRange 14 RX9) (hr : meth.sig.returnType = (some .boolean))  (x0 : Option Nat) (x1 : Int32) (x2 : Int32) (x3 : Int32) (x4 : Int32) (x5 : Int32) : gJ G p l e 0 0 mc ms s m args below meth c gri y 14 25 [(0, va_rf x0), (1, .int x1), (2, .int x2), (3, .int x3), (4, .int x4), (5, .int x5)] [] (f_X9_isInRange_25  x0 x1 x2 x3 x4 x5) := by
  have hx := C.1
  have hb := C.2.1
  intro σ H locs cells slots ls hf I hl
  unfold f_X9_isInRange_25 at hf
  refine lv_iconst (v := 0) hx hb dX9_isInRange_25 kc_i_0 ?_
  exact w_X9_isInRange_26 C hr  x0 x1 x2 x3 x4 x5 0 _ _ _ _ _ _ hf I (lv_sub hl [0, 1, 2, 3, 4, 5] rfl)
set_option maxHeartbeats 4000000 in
set_option maxRecDepth 100000 in
theorem w_X9_isInRange_0 (C : gC G p s m args meth c cX9_isInRange 14 RX9) (hr : meth.sig.returnType = (some .boolean))  (a0 : Option Nat) (a1 : Int32) (a2 : Int32) (a3 : Int32) (a4 : Int32) (a5 : Int32) : gJ G p l e 0 0 mc ms s m args below meth c gri y 14 0 [(0, va_rf a0), (1, .int a1), (2, .int a2), (3, .int a3), (4, .int a4), (5, .int a5)] [] (f_X9_isInRange  a0 a1 a2 a3 a4 a5) := by
  have hx := C.1
  have hb := C.2.1
  intro σ H locs cells slots ls hf I hl
  unfold f_X9_isInRange at hf
  refine lv_iload_n hx hb dX9_isInRange_0 rfl (lv_at hl 1 rfl) ?_
  refine lv_bipush (v := 6) hx hb dX9_isInRange_1 kc_b_6 ?_
  refine lv_icmp_ne (tgt := 25) hx hb dX9_isInRange_3 (by decide) (fun hq => ?_) (fun hq => ?_)
  · have hf := giff hq hf
    exact w_X9_isInRange_25 C hr  a0 a1 a2 a3 a4 a5 _ _ _ _ _ _ hf I (lv_sub hl [0, 1, 2, 3, 4, 5] rfl)
  · have hf := gift hq hf
    refine lv_iload_n hx hb dX9_isInRange_6 rfl (lv_at hl 2 rfl) ?_
    refine lv_if_ne (tgt := 25) hx hb dX9_isInRange_7 (by decide) (fun hq => ?_) (fun hq => ?_)
    · have hf := giff hq hf
      exact w_X9_isInRange_25 C hr  a0 a1 a2 a3 a4 a5 _ _ _ _ _ _ hf I (lv_sub hl [0, 1, 2, 3, 4, 5] rfl)
    · have hf := gift hq hf
      refine lv_iload_n hx hb dX9_isInRange_10 rfl (lv_at hl 3 rfl) ?_
      refine lv_if_ne (tgt := 25) hx hb dX9_isInRange_11 (by decide) (fun hq => ?_) (fun hq => ?_)
      · have hf := giff hq hf
        exact w_X9_isInRange_25 C hr  a0 a1 a2 a3 a4 a5 _ _ _ _ _ _ hf I (lv_sub hl [0, 1, 2, 3, 4, 5] rfl)
      · have hf := gift hq hf
        refine lv_iload hx hb dX9_isInRange_14 (lv_at hl 4 rfl) ?_
        refine gw_ldc C (v := 65535) kw_212 dX9_isInRange_16 ?_
        refine lv_icmp_ne (tgt := 25) hx hb dX9_isInRange_18 (by decide) (fun hq => ?_) (fun hq => ?_)
        · have hf := giff hq hf
          exact w_X9_isInRange_25 C hr  a0 a1 a2 a3 a4 a5 _ _ _ _ _ _ hf I (lv_sub hl [0, 1, 2, 3, 4, 5] rfl)
        · have hf := gift hq hf
          refine lv_iconst (v := 1) hx hb dX9_isInRange_21 kc_i_1 ?_
          refine lv_goto (tgt := 26) hx hb dX9_isInRange_22 (by decide) ?_
          exact w_X9_isInRange_26 C hr  a0 a1 a2 a3 a4 a5 1 _ _ _ _ _ _ hf I (lv_sub hl [0, 1, 2, 3, 4, 5] rfl)
end S_X9_isInRange
theorem m_X9_isInRange (G : gX) (l : Launch) (a0 : Option Nat) (a1 : Int32) (a2 : Int32) (a3 : Int32) (a4 : Int32) (a5 : Int32) : gMet G l yX9_isInRange cX9_isInRange 14 (some .boolean) 0 0 [va_rf a0, .int a1, .int a2, .int a3, .int a4, .int a5] gri (f_X9_isInRange a0 a1 a2 a3 a4 a5) := by
  refine gMet_of (by decide) ?_
  intro σ y p e s m below meth c mc ms hf C hr hnm I
  obtain ⟨ls, e1, hl⟩ := gentry m [va_rf a0, .int a1, .int a2, .int a3, .int a4, .int a5] 14 [(0, va_rf a0), (1, .int a1), (2, .int a2), (3, .int a3), (4, .int a4), (5, .int a5)] (by simp [lg_sl, grc, gcat_i, gcat_l]) (by simp [lv_args, grc, gcat_i, gcat_l])
  rw [e1]
  exact w_X9_isInRange_0 C hr a0 a1 a2 a3 a4 a5 _ _ _ _ _ _ hf I hl
def f_X9_pair  (a0 : Option Nat) (a1 : Int32) (a2 : Int32) : gM Int32 := gb (rR 8 6 a0) fun v1 => gb (aI 1 v1 ((8 * a1) + (2 * a2))) fun v2 => gb (rR 8 6 a0) fun v3 => gb (aI 1 v3 (((8 * a1) + (2 * a2)) + 1)) fun v4 => gp ((v2 <<< (16 &&& 31)) ||| v4)
section S_X9_pair
variable {G : gX} {p : Program} {l : Launch} {e : Env} {s : State} {m : MethodId} {args : Array Value} {below : List Frame} {meth : Method} {c : Code} {mc ms : Nat} {y : Int32 × gS}
set_option maxHeartbeats 4000000 in
set_option maxRecDepth 100000 in
theorem w_X9_pair_0 (C : gC G p s m args meth c cX9_pair 3 RX9) (hr : meth.sig.returnType = (some .int))  (a0 : Option Nat) (a1 : Int32) (a2 : Int32) : gJ G p l e 0 0 mc ms s m args below meth c gri y 3 0 [(0, va_rf a0), (1, .int a1), (2, .int a2)] [] (f_X9_pair  a0 a1 a2) := by
  have hx := C.1
  have hb := C.2.1
  intro σ H locs cells slots ls hf I hl
  unfold f_X9_pair at hf
  refine gw_aload_n hx hb dX9_pair_0 rfl (lv_at hl 0 rfl) ?_
  refine gw_getr (k := 6) C I gcls_8 (by decide) rfl kw_170 dX9_pair_1 hf (fun v1 hf => ?_)
  refine lv_bipush (v := 8) hx hb dX9_pair_4 kc_b_8 ?_
  refine lv_iload_n hx hb dX9_pair_6 rfl (lv_at hl 1 rfl) ?_
  refine lv_imul hx hb dX9_pair_7 ?_
  refine lv_iconst (v := 2) hx hb dX9_pair_8 kc_i_2 ?_
  refine lv_iload_n hx hb dX9_pair_9 rfl (lv_at hl 2 rfl) ?_
  refine lv_imul hx hb dX9_pair_10 ?_
  refine lv_iadd hx hb dX9_pair_11 ?_
  refine gw_iald C I dX9_pair_12 hf (fun v2 hf => ?_)
  refine lv_bipush (v := 16) hx hb dX9_pair_13 kc_b_16 ?_
  refine lv_ishl hx hb dX9_pair_15 ?_
  refine gw_aload_n hx hb dX9_pair_16 rfl (lv_at hl 0 rfl) ?_
  refine gw_getr (k := 6) C I gcls_8 (by decide) rfl kw_170 dX9_pair_17 hf (fun v3 hf => ?_)
  refine lv_bipush (v := 8) hx hb dX9_pair_20 kc_b_8 ?_
  refine lv_iload_n hx hb dX9_pair_22 rfl (lv_at hl 1 rfl) ?_
  refine lv_imul hx hb dX9_pair_23 ?_
  refine lv_iconst (v := 2) hx hb dX9_pair_24 kc_i_2 ?_
  refine lv_iload_n hx hb dX9_pair_25 rfl (lv_at hl 2 rfl) ?_
  refine lv_imul hx hb dX9_pair_26 ?_
  refine lv_iadd hx hb dX9_pair_27 ?_
  refine lv_iconst (v := 1) hx hb dX9_pair_28 kc_i_1 ?_
  refine lv_iadd hx hb dX9_pair_29 ?_
  refine gw_iald C I dX9_pair_30 hf (fun v4 hf => ?_)
  refine lv_ior hx hb dX9_pair_31 ?_
  exact gw_iret C I hr dX9_pair_32 hf
end S_X9_pair
theorem m_X9_pair (G : gX) (l : Launch) (a0 : Option Nat) (a1 : Int32) (a2 : Int32) : gMet G l yX9_pair cX9_pair 3 (some .int) 0 0 [va_rf a0, .int a1, .int a2] gri (f_X9_pair a0 a1 a2) := by
  refine gMet_of (by decide) ?_
  intro σ y p e s m below meth c mc ms hf C hr hnm I
  obtain ⟨ls, e1, hl⟩ := gentry m [va_rf a0, .int a1, .int a2] 3 [(0, va_rf a0), (1, .int a1), (2, .int a2)] (by simp [lg_sl, grc, gcat_i, gcat_l]) (by simp [lv_args, grc, gcat_i, gcat_l])
  rw [e1]
  exact w_X9_pair_0 C hr a0 a1 a2 _ _ _ _ _ _ hf I hl
def f_X9_pass_251 (rec155 : Option Nat → Int32 → Int32 → Int32 → Int32 → gM Int32) (x0 : Option Nat) (x1 : Int32) (x2 : Int32) (x3 : Int32) (x4 : Int32) (x5 : Int32) : gM Int32 := if x5 = 0 then (rec155 x0 x1 x2 x3 (x4 + 1)) else (if x3 = 0 then (rec155 x0 x1 (x2 + 1) 0 (x4 + 1)) else (gb (rR 8 28 x0) fun v1 => gb (aI 1 v1 x4) fun v2 => gb (rR 8 29 x0) fun v3 => gb (aI 1 v3 (4 * x4)) fun v4 => gb (rR 8 29 x0) fun v5 => gb (aI 1 v5 ((4 * x4) + 1)) fun v6 => gb (rR 8 29 x0) fun v7 => gb (aI 1 v7 ((4 * x4) + 2)) fun v8 => gb (rR 8 29 x0) fun v9 => gb (aI 1 v9 ((4 * x4) + 3)) fun v10 => gb (nn 8 x0) fun _ => gb (f_X9_isInRange x0 v2 v4 v6 v8 v10) fun v11 => if v11 = 0 then (rec155 x0 x1 (x2 + 1) 0 (x4 + 1)) else (rec155 x0 x1 (x2 + 1) 1 (x4 + 1))))
def f_X9_pass_190 (rec155 : Option Nat → Int32 → Int32 → Int32 → Int32 → gM Int32) (rec190 : Option Nat → Int32 → Int32 → Int32 → Int32 → Int32 → Int32 → gM Int32) (x0 : Option Nat) (x1 : Int32) (x2 : Int32) (x3 : Int32) (x4 : Int32) (x5 : Int32) (x6 : Int32) : gM Int32 := gb (rR 8 27 x0) fun v1 => gb (aI 1 v1 x4) fun v2 => if v2 ≤ x6 then (f_X9_pass_251 rec155 x0 x1 x2 x3 x4 x5) else (if x5 = 0 then (f_X9_pass_251 rec155 x0 x1 x2 x3 x4 x5) else (gb (rR 8 26 x0) fun v3 => gb (aI 0 v3 ((300 * x4) + x6)) fun v4 => gb (rR 8 9 x0) fun v5 => gb (nn 8 x0) fun _ => gb (f_X9_row x0 x1 2) fun v6 => gb (aI 0 v5 (v6 + x6)) fun v7 => if v4 = v7 then (rec190 x0 x1 x2 x3 x4 1 (x6 + 1)) else (rec190 x0 x1 x2 x3 x4 0 (x6 + 1))))
def f_X9_pass_L190 (rec155 : Option Nat → Int32 → Int32 → Int32 → Int32 → gM Int32) : Nat → Option Nat → Int32 → Int32 → Int32 → Int32 → Int32 → Int32 → gM Int32
  | 0, _, _, _, _, _, _, _ => gno
  | n + 1, x0, x1, x2, x3, x4, x5, x6 => f_X9_pass_190 rec155 (f_X9_pass_L190 rec155 n) x0 x1 x2 x3 x4 x5 x6
def f_X9_pass_155 (rec155 : Option Nat → Int32 → Int32 → Int32 → Int32 → gM Int32) (x0 : Option Nat) (x1 : Int32) (x2 : Int32) (x3 : Int32) (x4 : Int32) : gM Int32 := gb (rI 8 30 x0) fun v1 => if v1 ≤ x4 then (if x2 = 0 then (gp 4) else (if x3 = 0 then (gp 5) else (gp 0))) else (gb (rR 8 27 x0) fun v2 => gb (aI 1 v2 x4) fun v3 => gb (nn 8 x0) fun _ => gb (f_X9_sizeOf x0 x1 2) fun v4 => if v3 = v4 then (f_X9_pass_L190 rec155 gF x0 x1 x2 x3 x4 1 0) else (f_X9_pass_L190 rec155 gF x0 x1 x2 x3 x4 0 0))
def f_X9_pass_L155  : Nat → Option Nat → Int32 → Int32 → Int32 → Int32 → gM Int32
  | 0, _, _, _, _, _ => gno
  | n + 1, x0, x1, x2, x3, x4 => f_X9_pass_155  (f_X9_pass_L155  n) x0 x1 x2 x3 x4
def f_X9_pass_32  (x0 : Option Nat) (x1 : Int32) : gM Int32 := gb (nn 8 x0) fun _ => gb (f_X9_sizeOf x0 x1 0) fun v1 => if 0 < v1 then (gp 2) else (gb (nn 8 x0) fun _ => gb (f_X9_sizeOf x0 x1 1) fun v2 => if v2 ≤ 0 then (gb (nn 8 x0) fun _ => gb (f_X9_isListed x0 x1) fun v3 => if v3 = 0 then (gp 3) else (gb (rR 8 5 x0) fun v4 => gb (aI 1 v4 x1) fun v5 => if v5 = 4 then (gb (rR 8 6 x0) fun v13 => gb (aI 1 v13 (8 * x1)) fun v14 => gb (nn 8 x0) fun _ => gb (f_X9_isInRange x0 4 v14 0 0 0) fun v15 => if v15 = 0 then (gp 5) else (gp 0)) else (gb (rR 8 5 x0) fun v6 => gb (aI 1 v6 x1) fun v7 => if v7 = 6 then (gb (nn 8 x0) fun _ => gb (f_X9_pair x0 x1 0) fun v8 => gb (nn 8 x0) fun _ => gb (f_X9_pair x0 x1 1) fun v9 => gb (nn 8 x0) fun _ => gb (f_X9_pair x0 x1 2) fun v10 => gb (nn 8 x0) fun _ => gb (f_X9_pair x0 x1 3) fun v11 => gb (nn 8 x0) fun _ => gb (f_X9_isInRange x0 6 v8 v9 v10 v11) fun v12 => if v12 = 0 then (gp 5) else (gp 0)) else (f_X9_pass_L155  gF x0 x1 0 1 0)))) else (gp 2))
def f_X9_pass  (a0 : Option Nat) (a1 : Int32) : gM Int32 := gb (nn 8 a0) fun _ => gb (f_X9_has a0 a1) fun v1 => if v1 = 0 then (gp (-2)) else (gb (rR 8 3 a0) fun v2 => gb (aI 1 v2 a1) fun v3 => if v3 = 0 then (f_X9_pass_32  a0 a1) else (gb (rR 8 3 a0) fun v4 => gb (aI 1 v4 a1) fun v5 => if v5 = 2 then (f_X9_pass_32  a0 a1) else (gp 1)))
section S_X9_pass
variable {G : gX} {p : Program} {l : Launch} {e : Env} {s : State} {m : MethodId} {args : Array Value} {below : List Frame} {meth : Method} {c : Code} {mc ms : Nat} {y : Int32 × gS}
set_option maxHeartbeats 4000000 in
set_option maxRecDepth 100000 in
theorem w_X9_pass_251 (C : gC G p s m args meth c cX9_pass 7 RX9) (hr : meth.sig.returnType = (some .int)) {rec155 : Option Nat → Int32 → Int32 → Int32 → Int32 → gM Int32} (hrec155 : ∀ (x0 : Option Nat) (x1 : Int32) (x2 : Int32) (x3 : Int32) (x4 : Int32), gJ G p l e 2 48 mc ms s m args below meth c gri y 7 155 [(0, va_rf x0), (1, .int x1), (2, .int x2), (3, .int x3), (4, .int x4)] [] (rec155 x0 x1 x2 x3 x4)) (x0 : Option Nat) (x1 : Int32) (x2 : Int32) (x3 : Int32) (x4 : Int32) (x5 : Int32) : gJ G p l e 2 48 mc ms s m args below meth c gri y 7 251 [(0, va_rf x0), (1, .int x1), (2, .int x2), (3, .int x3), (4, .int x4), (5, .int x5)] [] (f_X9_pass_251 rec155 x0 x1 x2 x3 x4 x5) := by
  have hx := C.1
  have hb := C.2.1
  intro σ H locs cells slots ls hf I hl
  unfold f_X9_pass_251 at hf
  refine lv_iload hx hb dX9_pass_251 (lv_at hl 5 rfl) ?_
  refine lv_if_eq (tgt := 325) hx hb dX9_pass_253 (by decide) (fun hq => ?_) (fun hq => ?_)
  · have hf := gift hq hf
    refine lv_iinc (v := x4 + 1) (lv' := [(4, .int (x4 + 1)), (0, va_rf x0), (1, .int x1), (2, .int x2), (3, .int x3), (5, .int x5)]) hx hb dX9_pass_325 hl (k := 4) rfl rfl (by decide) rfl (fun ls hl => ?_)
    refine lv_goto (tgt := 155) hx hb dX9_pass_328 (by decide) ?_
    exact hrec155 x0 x1 x2 x3 (x4 + 1) _ _ _ _ _ _ hf I (lv_sub hl [1, 2, 3, 4, 0] rfl)
  · have hf := giff hq hf
    refine lv_iinc (v := x2 + 1) (lv' := [(2, .int (x2 + 1)), (0, va_rf x0), (1, .int x1), (3, .int x3), (4, .int x4), (5, .int x5)]) hx hb dX9_pass_256 hl (k := 2) rfl rfl (by decide) rfl (fun ls hl => ?_)
    refine lv_iload_n hx hb dX9_pass_259 rfl (lv_at hl 3 rfl) ?_
    refine lv_if_eq (tgt := 323) hx hb dX9_pass_260 (by decide) (fun hq => ?_) (fun hq => ?_)
    · have hf := gift hq hf
      refine lv_iconst (v := 0) hx hb dX9_pass_323 kc_i_0 ?_
      refine lv_istore_n (lv' := [(3, .int 0), (2, .int (x2 + 1)), (0, va_rf x0), (1, .int x1), (4, .int x4), (5, .int x5)]) hx hb dX9_pass_324 rfl hl (by decide) rfl (fun ls hl => ?_)
      refine lv_iinc (v := x4 + 1) (lv' := [(4, .int (x4 + 1)), (3, .int 0), (2, .int (x2 + 1)), (0, va_rf x0), (1, .int x1), (5, .int x5)]) hx hb dX9_pass_325 hl (k := 4) rfl rfl (by decide) rfl (fun ls hl => ?_)
      refine lv_goto (tgt := 155) hx hb dX9_pass_328 (by decide) ?_
      exact hrec155 x0 x1 (x2 + 1) 0 (x4 + 1) _ _ _ _ _ _ hf I (lv_sub hl [3, 4, 2, 1, 0] rfl)
    · have hf := giff hq hf
      refine gw_aload_n hx hb dX9_pass_263 rfl (lv_at hl 1 rfl) ?_
      refine gw_aload_n hx hb dX9_pass_264 rfl (lv_at hl 1 rfl) ?_
      refine gw_getr (k := 28) C I gcls_8 (by decide) rfl kw_187 dX9_pass_265 hf (fun v1 hf => ?_)
      refine lv_iload hx hb dX9_pass_268 (lv_at hl 4 rfl) ?_
      refine gw_iald C I dX9_pass_270 hf (fun v2 hf => ?_)
      refine gw_aload_n hx hb dX9_pass_271 rfl (lv_at hl 1 rfl) ?_
      refine gw_getr (k := 29) C I gcls_8 (by decide) rfl kw_188 dX9_pass_272 hf (fun v3 hf => ?_)
      refine lv_iconst (v := 4) hx hb dX9_pass_275 kc_i_4 ?_
      refine lv_iload hx hb dX9_pass_276 (lv_at hl 4 rfl) ?_
      refine lv_imul hx hb dX9_pass_278 ?_
      refine gw_iald C I dX9_pass_279 hf (fun v4 hf => ?_)
      refine gw_aload_n hx hb dX9_pass_280 rfl (lv_at hl 1 rfl) ?_
      refine gw_getr (k := 29) C I gcls_8 (by decide) rfl kw_188 dX9_pass_281 hf (fun v5 hf => ?_)
      refine lv_iconst (v := 4) hx hb dX9_pass_284 kc_i_4 ?_
      refine lv_iload hx hb dX9_pass_285 (lv_at hl 4 rfl) ?_
      refine lv_imul hx hb dX9_pass_287 ?_
      refine lv_iconst (v := 1) hx hb dX9_pass_288 kc_i_1 ?_
      refine lv_iadd hx hb dX9_pass_289 ?_
      refine gw_iald C I dX9_pass_290 hf (fun v6 hf => ?_)
      refine gw_aload_n hx hb dX9_pass_291 rfl (lv_at hl 1 rfl) ?_
      refine gw_getr (k := 29) C I gcls_8 (by decide) rfl kw_188 dX9_pass_292 hf (fun v7 hf => ?_)
      refine lv_iconst (v := 4) hx hb dX9_pass_295 kc_i_4 ?_
      refine lv_iload hx hb dX9_pass_296 (lv_at hl 4 rfl) ?_
      refine lv_imul hx hb dX9_pass_298 ?_
      refine lv_iconst (v := 2) hx hb dX9_pass_299 kc_i_2 ?_
      refine lv_iadd hx hb dX9_pass_300 ?_
      refine gw_iald C I dX9_pass_301 hf (fun v8 hf => ?_)
      refine gw_aload_n hx hb dX9_pass_302 rfl (lv_at hl 1 rfl) ?_
      refine gw_getr (k := 29) C I gcls_8 (by decide) rfl kw_188 dX9_pass_303 hf (fun v9 hf => ?_)
      refine lv_iconst (v := 4) hx hb dX9_pass_306 kc_i_4 ?_
      refine lv_iload hx hb dX9_pass_307 (lv_at hl 4 rfl) ?_
      refine lv_imul hx hb dX9_pass_309 ?_
      refine lv_iconst (v := 3) hx hb dX9_pass_310 kc_i_3 ?_
      refine lv_iadd hx hb dX9_pass_311 ?_
      refine gw_iald C I dX9_pass_312 hf (fun v10 hf => ?_)
      refine gw_callV (rest := []) C I hl.1 gcls_8 (m_X9_isInRange G l x0 v2 v4 v6 v8 v10) gl_RX9_316 gn_X9_isInRange ⟨Nat.le_of_ble_eq_true rfl, Nat.le_of_ble_eq_true rfl⟩ rfl (gc4 (Nat.le_of_ble_eq_true rfl)) rfl dX9_pass_313 hf (fun v11 σ H locs cells slots I hf => ?_)
      refine W.eq (g2 := F0 m 316 ls [.int v11]) rfl ?_
      refine lv_if_eq (tgt := 323) hx hb dX9_pass_316 (by decide) (fun hq => ?_) (fun hq => ?_)
      · have hf := gift hq hf
        refine lv_iconst (v := 0) hx hb dX9_pass_323 kc_i_0 ?_
        refine lv_istore_n (lv' := [(3, .int 0), (2, .int (x2 + 1)), (0, va_rf x0), (1, .int x1), (4, .int x4), (5, .int x5)]) hx hb dX9_pass_324 rfl hl (by decide) rfl (fun ls hl => ?_)
        refine lv_iinc (v := x4 + 1) (lv' := [(4, .int (x4 + 1)), (3, .int 0), (2, .int (x2 + 1)), (0, va_rf x0), (1, .int x1), (5, .int x5)]) hx hb dX9_pass_325 hl (k := 4) rfl rfl (by decide) rfl (fun ls hl => ?_)
        refine lv_goto (tgt := 155) hx hb dX9_pass_328 (by decide) ?_
        exact hrec155 x0 x1 (x2 + 1) 0 (x4 + 1) _ _ _ _ _ _ hf I (lv_sub hl [3, 4, 2, 1, 0] rfl)
      · have hf := giff hq hf
        refine lv_iconst (v := 1) hx hb dX9_pass_319 kc_i_1 ?_
        refine lv_goto (tgt := 324) hx hb dX9_pass_320 (by decide) ?_
        refine lv_istore_n (lv' := [(3, .int 1), (2, .int (x2 + 1)), (0, va_rf x0), (1, .int x1), (4, .int x4), (5, .int x5)]) hx hb dX9_pass_324 rfl hl (by decide) rfl (fun ls hl => ?_)
        refine lv_iinc (v := x4 + 1) (lv' := [(4, .int (x4 + 1)), (3, .int 1), (2, .int (x2 + 1)), (0, va_rf x0), (1, .int x1), (5, .int x5)]) hx hb dX9_pass_325 hl (k := 4) rfl rfl (by decide) rfl (fun ls hl => ?_)
        refine lv_goto (tgt := 155) hx hb dX9_pass_328 (by decide) ?_
        exact hrec155 x0 x1 (x2 + 1) 1 (x4 + 1) _ _ _ _ _ _ hf I (lv_sub hl [3, 4, 2, 1, 0] rfl)
set_option maxHeartbeats 4000000 in
set_option maxRecDepth 100000 in
theorem w_X9_pass_190 (C : gC G p s m args meth c cX9_pass 7 RX9) (hr : meth.sig.returnType = (some .int)) {rec155 : Option Nat → Int32 → Int32 → Int32 → Int32 → gM Int32} (hrec155 : ∀ (x0 : Option Nat) (x1 : Int32) (x2 : Int32) (x3 : Int32) (x4 : Int32), gJ G p l e 2 48 mc ms s m args below meth c gri y 7 155 [(0, va_rf x0), (1, .int x1), (2, .int x2), (3, .int x3), (4, .int x4)] [] (rec155 x0 x1 x2 x3 x4)) {rec190 : Option Nat → Int32 → Int32 → Int32 → Int32 → Int32 → Int32 → gM Int32} (hrec190 : ∀ (x0 : Option Nat) (x1 : Int32) (x2 : Int32) (x3 : Int32) (x4 : Int32) (x5 : Int32) (x6 : Int32), gJ G p l e 2 48 mc ms s m args below meth c gri y 7 190 [(0, va_rf x0), (1, .int x1), (2, .int x2), (3, .int x3), (4, .int x4), (5, .int x5), (6, .int x6)] [] (rec190 x0 x1 x2 x3 x4 x5 x6)) (x0 : Option Nat) (x1 : Int32) (x2 : Int32) (x3 : Int32) (x4 : Int32) (x5 : Int32) (x6 : Int32) : gJ G p l e 2 48 mc ms s m args below meth c gri y 7 190 [(0, va_rf x0), (1, .int x1), (2, .int x2), (3, .int x3), (4, .int x4), (5, .int x5), (6, .int x6)] [] (f_X9_pass_190 rec155 rec190 x0 x1 x2 x3 x4 x5 x6) := by
  have hx := C.1
  have hb := C.2.1
  intro σ H locs cells slots ls hf I hl
  unfold f_X9_pass_190 at hf
  refine lv_iload hx hb dX9_pass_190 (lv_at hl 6 rfl) ?_
  refine gw_aload_n hx hb dX9_pass_192 rfl (lv_at hl 0 rfl) ?_
  refine gw_getr (k := 27) C I gcls_8 (by decide) rfl kw_186 dX9_pass_193 hf (fun v1 hf => ?_)
  refine lv_iload hx hb dX9_pass_196 (lv_at hl 4 rfl) ?_
  refine gw_iald C I dX9_pass_198 hf (fun v2 hf => ?_)
  refine lv_icmp_ge (tgt := 251) hx hb dX9_pass_199 (by decide) (fun hq => ?_) (fun hq => ?_)
  · have hf := gift hq hf
    exact w_X9_pass_251 C hr hrec155 x0 x1 x2 x3 x4 x5 _ _ _ _ _ _ hf I (lv_sub hl [0, 1, 2, 3, 4, 5] rfl)
  · have hf := giff hq hf
    refine lv_iload hx hb dX9_pass_202 (lv_at hl 5 rfl) ?_
    refine lv_if_eq (tgt := 251) hx hb dX9_pass_204 (by decide) (fun hq => ?_) (fun hq => ?_)
    · have hf := gift hq hf
      exact w_X9_pass_251 C hr hrec155 x0 x1 x2 x3 x4 x5 _ _ _ _ _ _ hf I (lv_sub hl [0, 1, 2, 3, 4, 5] rfl)
    · have hf := giff hq hf
      refine gw_aload_n hx hb dX9_pass_207 rfl (lv_at hl 0 rfl) ?_
      refine gw_getr (k := 26) C I gcls_8 (by decide) rfl kw_185 dX9_pass_208 hf (fun v3 hf => ?_)
      refine lv_sipush (v := 300) hx hb dX9_pass_211 kc_s_300 ?_
      refine lv_iload hx hb dX9_pass_214 (lv_at hl 4 rfl) ?_
      refine lv_imul hx hb dX9_pass_216 ?_
      refine lv_iload hx hb dX9_pass_217 (lv_at hl 6 rfl) ?_
      refine lv_iadd hx hb dX9_pass_219 ?_
      refine gw_bald C I dX9_pass_220 hf (fun v4 hf => ?_)
      refine gw_aload_n hx hb dX9_pass_221 rfl (lv_at hl 0 rfl) ?_
      refine gw_getr (k := 9) C I gcls_8 (by decide) rfl kw_174 dX9_pass_222 hf (fun v5 hf => ?_)
      refine gw_aload_n hx hb dX9_pass_225 rfl (lv_at hl 0 rfl) ?_
      refine lv_iload_n hx hb dX9_pass_226 rfl (lv_at hl 1 rfl) ?_
      refine lv_iconst (v := 2) hx hb dX9_pass_227 kc_i_2 ?_
      refine gw_callV (rest := [va_rf v5, .int v4]) C I hl.1 gcls_8 (m_X9_row G l x0 x1 2) gl_RX9_111 gn_X9_row ⟨Nat.le_of_ble_eq_true rfl, Nat.le_of_ble_eq_true rfl⟩ rfl (gc4 (Nat.le_of_ble_eq_true rfl)) rfl dX9_pass_228 hf (fun v6 σ H locs cells slots I hf => ?_)
      refine W.eq (g2 := F0 m 231 ls [.int v6, va_rf v5, .int v4]) rfl ?_
      refine lv_iload hx hb dX9_pass_231 (lv_at hl 6 rfl) ?_
      refine lv_iadd hx hb dX9_pass_233 ?_
      refine gw_bald C I dX9_pass_234 hf (fun v7 hf => ?_)
      refine lv_icmp_ne (tgt := 242) hx hb dX9_pass_235 (by decide) (fun hq => ?_) (fun hq => ?_)
      · have hf := giff hq hf
        refine lv_iconst (v := 0) hx hb dX9_pass_242 kc_i_0 ?_
        refine lv_istore (lv' := [(5, .int 0), (0, va_rf x0), (1, .int x1), (2, .int x2), (3, .int x3), (4, .int x4), (6, .int x6)]) hx hb dX9_pass_243 hl (by decide) rfl (fun ls hl => ?_)
        refine lv_iinc (v := x6 + 1) (lv' := [(6, .int (x6 + 1)), (5, .int 0), (0, va_rf x0), (1, .int x1), (2, .int x2), (3, .int x3), (4, .int x4)]) hx hb dX9_pass_245 hl (k := 6) rfl rfl (by decide) rfl (fun ls hl => ?_)
        refine lv_goto (tgt := 190) hx hb dX9_pass_248 (by decide) ?_
        exact hrec190 x0 x1 x2 x3 x4 0 (x6 + 1) _ _ _ _ _ _ hf I (lv_sub hl [2, 3, 4, 5, 6, 1, 0] rfl)
      · have hf := gift hq hf
        refine lv_iconst (v := 1) hx hb dX9_pass_238 kc_i_1 ?_
        refine lv_goto (tgt := 243) hx hb dX9_pass_239 (by decide) ?_
        refine lv_istore (lv' := [(5, .int 1), (0, va_rf x0), (1, .int x1), (2, .int x2), (3, .int x3), (4, .int x4), (6, .int x6)]) hx hb dX9_pass_243 hl (by decide) rfl (fun ls hl => ?_)
        refine lv_iinc (v := x6 + 1) (lv' := [(6, .int (x6 + 1)), (5, .int 1), (0, va_rf x0), (1, .int x1), (2, .int x2), (3, .int x3), (4, .int x4)]) hx hb dX9_pass_245 hl (k := 6) rfl rfl (by decide) rfl (fun ls hl => ?_)
        refine lv_goto (tgt := 190) hx hb dX9_pass_248 (by decide) ?_
        exact hrec190 x0 x1 x2 x3 x4 1 (x6 + 1) _ _ _ _ _ _ hf I (lv_sub hl [2, 3, 4, 5, 6, 1, 0] rfl)
theorem w_X9_pass_L190 (C : gC G p s m args meth c cX9_pass 7 RX9) (hr : meth.sig.returnType = (some .int)) {rec155 : Option Nat → Int32 → Int32 → Int32 → Int32 → gM Int32} (hrec155 : ∀ (x0 : Option Nat) (x1 : Int32) (x2 : Int32) (x3 : Int32) (x4 : Int32), gJ G p l e 2 48 mc ms s m args below meth c gri y 7 155 [(0, va_rf x0), (1, .int x1), (2, .int x2), (3, .int x3), (4, .int x4)] [] (rec155 x0 x1 x2 x3 x4)) : ∀ (n : Nat) (x0 : Option Nat) (x1 : Int32) (x2 : Int32) (x3 : Int32) (x4 : Int32) (x5 : Int32) (x6 : Int32), gJ G p l e 2 48 mc ms s m args below meth c gri y 7 190 [(0, va_rf x0), (1, .int x1), (2, .int x2), (3, .int x3), (4, .int x4), (5, .int x5), (6, .int x6)] [] (f_X9_pass_L190 rec155 n x0 x1 x2 x3 x4 x5 x6) := by
  intro n
  induction n with
  | zero => intro x0 x1 x2 x3 x4 x5 x6 σ H locs cells slots ls hf; exact (gno_some hf).elim
  | succ n ih => intro x0 x1 x2 x3 x4 x5 x6; exact w_X9_pass_190 C hr hrec155 ih x0 x1 x2 x3 x4 x5 x6
set_option maxHeartbeats 4000000 in
set_option maxRecDepth 100000 in
theorem w_X9_pass_155 (C : gC G p s m args meth c cX9_pass 7 RX9) (hr : meth.sig.returnType = (some .int)) {rec155 : Option Nat → Int32 → Int32 → Int32 → Int32 → gM Int32} (hrec155 : ∀ (x0 : Option Nat) (x1 : Int32) (x2 : Int32) (x3 : Int32) (x4 : Int32), gJ G p l e 2 48 mc ms s m args below meth c gri y 7 155 [(0, va_rf x0), (1, .int x1), (2, .int x2), (3, .int x3), (4, .int x4)] [] (rec155 x0 x1 x2 x3 x4)) (x0 : Option Nat) (x1 : Int32) (x2 : Int32) (x3 : Int32) (x4 : Int32) : gJ G p l e 2 48 mc ms s m args below meth c gri y 7 155 [(0, va_rf x0), (1, .int x1), (2, .int x2), (3, .int x3), (4, .int x4)] [] (f_X9_pass_155 rec155 x0 x1 x2 x3 x4) := by
  have hx := C.1
  have hb := C.2.1
  intro σ H locs cells slots ls hf I hl
  unfold f_X9_pass_155 at hf
  refine lv_iload hx hb dX9_pass_155 (lv_at hl 4 rfl) ?_
  refine gw_aload_n hx hb dX9_pass_157 rfl (lv_at hl 0 rfl) ?_
  refine gw_geti (k := 30) C I gcls_8 (by decide) rfl kw_221 dX9_pass_158 hf (fun v1 hf => ?_)
  refine lv_icmp_ge (tgt := 331) hx hb dX9_pass_161 (by decide) (fun hq => ?_) (fun hq => ?_)
  · have hf := gift hq hf
    refine lv_iload_n hx hb dX9_pass_331 rfl (lv_at hl 2 rfl) ?_
    refine lv_if_ne (tgt := 339) hx hb dX9_pass_332 (by decide) (fun hq => ?_) (fun hq => ?_)
    · have hf := giff hq hf
      refine lv_iload_n hx hb dX9_pass_339 rfl (lv_at hl 3 rfl) ?_
      refine lv_if_eq (tgt := 347) hx hb dX9_pass_340 (by decide) (fun hq => ?_) (fun hq => ?_)
      · have hf := gift hq hf
        refine lv_iconst (v := 5) hx hb dX9_pass_347 kc_i_5 ?_
        exact gw_iret C I hr dX9_pass_348 hf
      · have hf := giff hq hf
        refine lv_iconst (v := 0) hx hb dX9_pass_343 kc_i_0 ?_
        refine lv_goto (tgt := 348) hx hb dX9_pass_344 (by decide) ?_
        exact gw_iret C I hr dX9_pass_348 hf
    · have hf := gift hq hf
      refine lv_iconst (v := 4) hx hb dX9_pass_335 kc_i_4 ?_
      refine lv_goto (tgt := 348) hx hb dX9_pass_336 (by decide) ?_
      exact gw_iret C I hr dX9_pass_348 hf
  · have hf := giff hq hf
    refine gw_aload_n hx hb dX9_pass_164 rfl (lv_at hl 0 rfl) ?_
    refine gw_getr (k := 27) C I gcls_8 (by decide) rfl kw_186 dX9_pass_165 hf (fun v2 hf => ?_)
    refine lv_iload hx hb dX9_pass_168 (lv_at hl 4 rfl) ?_
    refine gw_iald C I dX9_pass_170 hf (fun v3 hf => ?_)
    refine gw_aload_n hx hb dX9_pass_171 rfl (lv_at hl 0 rfl) ?_
    refine lv_iload_n hx hb dX9_pass_172 rfl (lv_at hl 1 rfl) ?_
    refine lv_iconst (v := 2) hx hb dX9_pass_173 kc_i_2 ?_
    refine gw_callV (rest := [.int v3]) C I hl.1 gcls_8 (m_X9_sizeOf G l x0 x1 2) gl_RX9_107 gn_X9_sizeOf ⟨Nat.le_of_ble_eq_true rfl, Nat.le_of_ble_eq_true rfl⟩ rfl (gc4 (Nat.le_of_ble_eq_true rfl)) rfl dX9_pass_174 hf (fun v4 σ H locs cells slots I hf => ?_)
    refine W.eq (g2 := F0 m 177 ls [.int v4, .int v3]) rfl ?_
    refine lv_icmp_ne (tgt := 184) hx hb dX9_pass_177 (by decide) (fun hq => ?_) (fun hq => ?_)
    · have hf := giff hq hf
      refine lv_iconst (v := 0) hx hb dX9_pass_184 kc_i_0 ?_
      refine lv_istore (lv' := [(5, .int 0), (0, va_rf x0), (1, .int x1), (2, .int x2), (3, .int x3), (4, .int x4)]) hx hb dX9_pass_185 hl (by decide) rfl (fun ls hl => ?_)
      refine lv_iconst (v := 0) hx hb dX9_pass_187 kc_i_0 ?_
      refine lv_istore (lv' := [(6, .int 0), (5, .int 0), (0, va_rf x0), (1, .int x1), (2, .int x2), (3, .int x3), (4, .int x4)]) hx hb dX9_pass_188 hl (by decide) rfl (fun ls hl => ?_)
      exact w_X9_pass_L190 C hr hrec155 _ x0 x1 x2 x3 x4 0 0 _ _ _ _ _ _ hf I (lv_sub hl [2, 3, 4, 5, 6, 1, 0] rfl)
    · have hf := gift hq hf
      refine lv_iconst (v := 1) hx hb dX9_pass_180 kc_i_1 ?_
      refine lv_goto (tgt := 185) hx hb dX9_pass_181 (by decide) ?_
      refine lv_istore (lv' := [(5, .int 1), (0, va_rf x0), (1, .int x1), (2, .int x2), (3, .int x3), (4, .int x4)]) hx hb dX9_pass_185 hl (by decide) rfl (fun ls hl => ?_)
      refine lv_iconst (v := 0) hx hb dX9_pass_187 kc_i_0 ?_
      refine lv_istore (lv' := [(6, .int 0), (5, .int 1), (0, va_rf x0), (1, .int x1), (2, .int x2), (3, .int x3), (4, .int x4)]) hx hb dX9_pass_188 hl (by decide) rfl (fun ls hl => ?_)
      exact w_X9_pass_L190 C hr hrec155 _ x0 x1 x2 x3 x4 1 0 _ _ _ _ _ _ hf I (lv_sub hl [2, 3, 4, 5, 6, 1, 0] rfl)
theorem w_X9_pass_L155 (C : gC G p s m args meth c cX9_pass 7 RX9) (hr : meth.sig.returnType = (some .int))  : ∀ (n : Nat) (x0 : Option Nat) (x1 : Int32) (x2 : Int32) (x3 : Int32) (x4 : Int32), gJ G p l e 2 48 mc ms s m args below meth c gri y 7 155 [(0, va_rf x0), (1, .int x1), (2, .int x2), (3, .int x3), (4, .int x4)] [] (f_X9_pass_L155  n x0 x1 x2 x3 x4) := by
  intro n
  induction n with
  | zero => intro x0 x1 x2 x3 x4 σ H locs cells slots ls hf; exact (gno_some hf).elim
  | succ n ih => intro x0 x1 x2 x3 x4; exact w_X9_pass_155 C hr  ih x0 x1 x2 x3 x4
set_option maxHeartbeats 4000000 in
set_option maxRecDepth 100000 in
theorem w_X9_pass_32 (C : gC G p s m args meth c cX9_pass 7 RX9) (hr : meth.sig.returnType = (some .int))  (x0 : Option Nat) (x1 : Int32) : gJ G p l e 2 48 mc ms s m args below meth c gri y 7 32 [(0, va_rf x0), (1, .int x1)] [] (f_X9_pass_32  x0 x1) := by
  have hx := C.1
  have hb := C.2.1
  intro σ H locs cells slots ls hf I hl
  unfold f_X9_pass_32 at hf
  refine gw_aload_n hx hb dX9_pass_32 rfl (lv_at hl 0 rfl) ?_
  refine lv_iload_n hx hb dX9_pass_33 rfl (lv_at hl 1 rfl) ?_
  refine lv_iconst (v := 0) hx hb dX9_pass_34 kc_i_0 ?_
  refine gw_callV (rest := []) C I hl.1 gcls_8 (m_X9_sizeOf G l x0 x1 0) gl_RX9_107 gn_X9_sizeOf ⟨Nat.le_of_ble_eq_true rfl, Nat.le_of_ble_eq_true rfl⟩ rfl (gc4 (Nat.le_of_ble_eq_true rfl)) rfl dX9_pass_35 hf (fun v1 σ H locs cells slots I hf => ?_)
  refine W.eq (g2 := F0 m 38 ls [.int v1]) rfl ?_
  refine lv_if_gt (tgt := 50) hx hb dX9_pass_38 (by decide) (fun hq => ?_) (fun hq => ?_)
  · have hf := gift hq hf
    refine lv_iconst (v := 2) hx hb dX9_pass_50 kc_i_2 ?_
    exact gw_iret C I hr dX9_pass_51 hf
  · have hf := giff hq hf
    refine gw_aload_n hx hb dX9_pass_41 rfl (lv_at hl 0 rfl) ?_
    refine lv_iload_n hx hb dX9_pass_42 rfl (lv_at hl 1 rfl) ?_
    refine lv_iconst (v := 1) hx hb dX9_pass_43 kc_i_1 ?_
    refine gw_callV (rest := []) C I hl.1 gcls_8 (m_X9_sizeOf G l x0 x1 1) gl_RX9_107 gn_X9_sizeOf ⟨Nat.le_of_ble_eq_true rfl, Nat.le_of_ble_eq_true rfl⟩ rfl (gc4 (Nat.le_of_ble_eq_true rfl)) rfl dX9_pass_44 hf (fun v2 σ H locs cells slots I hf => ?_)
    refine W.eq (g2 := F0 m 47 ls [.int v2]) rfl ?_
    refine lv_if_le (tgt := 52) hx hb dX9_pass_47 (by decide) (fun hq => ?_) (fun hq => ?_)
    · have hf := gift hq hf
      refine gw_aload_n hx hb dX9_pass_52 rfl (lv_at hl 0 rfl) ?_
      refine lv_iload_n hx hb dX9_pass_53 rfl (lv_at hl 1 rfl) ?_
      refine gw_callV (rest := []) C I hl.1 gcls_8 (m_X9_isListed G l x0 x1) gl_RX9_313 gn_X9_isListed ⟨Nat.le_of_ble_eq_true rfl, Nat.le_of_ble_eq_true rfl⟩ rfl (gc4 (Nat.le_of_ble_eq_true rfl)) rfl dX9_pass_54 hf (fun v3 σ H locs cells slots I hf => ?_)
      refine W.eq (g2 := F0 m 57 ls [.int v3]) rfl ?_
      refine lv_if_ne (tgt := 62) hx hb dX9_pass_57 (by decide) (fun hq => ?_) (fun hq => ?_)
      · have hf := giff hq hf
        refine gw_aload_n hx hb dX9_pass_62 rfl (lv_at hl 0 rfl) ?_
        refine gw_getr (k := 5) C I gcls_8 (by decide) rfl kw_169 dX9_pass_63 hf (fun v4 hf => ?_)
        refine lv_iload_n hx hb dX9_pass_66 rfl (lv_at hl 1 rfl) ?_
        refine gw_iald C I dX9_pass_67 hf (fun v5 hf => ?_)
        refine lv_iconst (v := 4) hx hb dX9_pass_68 kc_i_4 ?_
        refine lv_icmp_ne (tgt := 98) hx hb dX9_pass_69 (by decide) (fun hq => ?_) (fun hq => ?_)
        · have hf := giff hq hf
          refine gw_aload_n hx hb dX9_pass_98 rfl (lv_at hl 0 rfl) ?_
          refine gw_getr (k := 5) C I gcls_8 (by decide) rfl kw_169 dX9_pass_99 hf (fun v6 hf => ?_)
          refine lv_iload_n hx hb dX9_pass_102 rfl (lv_at hl 1 rfl) ?_
          refine gw_iald C I dX9_pass_103 hf (fun v7 hf => ?_)
          refine lv_bipush (v := 6) hx hb dX9_pass_104 kc_b_6 ?_
          refine lv_icmp_ne (tgt := 148) hx hb dX9_pass_106 (by decide) (fun hq => ?_) (fun hq => ?_)
          · have hf := giff hq hf
            refine lv_iconst (v := 0) hx hb dX9_pass_148 kc_i_0 ?_
            refine lv_istore_n (lv' := [(2, .int 0), (0, va_rf x0), (1, .int x1)]) hx hb dX9_pass_149 rfl hl (by decide) rfl (fun ls hl => ?_)
            refine lv_iconst (v := 1) hx hb dX9_pass_150 kc_i_1 ?_
            refine lv_istore_n (lv' := [(3, .int 1), (2, .int 0), (0, va_rf x0), (1, .int x1)]) hx hb dX9_pass_151 rfl hl (by decide) rfl (fun ls hl => ?_)
            refine lv_iconst (v := 0) hx hb dX9_pass_152 kc_i_0 ?_
            refine lv_istore (lv' := [(4, .int 0), (3, .int 1), (2, .int 0), (0, va_rf x0), (1, .int x1)]) hx hb dX9_pass_153 hl (by decide) rfl (fun ls hl => ?_)
            exact w_X9_pass_L155 C hr  _ x0 x1 0 1 0 _ _ _ _ _ _ hf I (lv_sub hl [3, 4, 2, 1, 0] rfl)
          · have hf := gift hq hf
            refine gw_aload_n hx hb dX9_pass_109 rfl (lv_at hl 0 rfl) ?_
            refine lv_bipush (v := 6) hx hb dX9_pass_110 kc_b_6 ?_
            refine gw_aload_n hx hb dX9_pass_112 rfl (lv_at hl 0 rfl) ?_
            refine lv_iload_n hx hb dX9_pass_113 rfl (lv_at hl 1 rfl) ?_
            refine lv_iconst (v := 0) hx hb dX9_pass_114 kc_i_0 ?_
            refine gw_callV (rest := [.int 6, va_rf x0]) C I hl.1 gcls_8 (m_X9_pair G l x0 x1 0) gl_RX9_320 gn_X9_pair ⟨Nat.le_of_ble_eq_true rfl, Nat.le_of_ble_eq_true rfl⟩ rfl (gc4 (Nat.le_of_ble_eq_true rfl)) rfl dX9_pass_115 hf (fun v8 σ H locs cells slots I hf => ?_)
            refine W.eq (g2 := F0 m 118 ls [.int v8, .int 6, va_rf x0]) rfl ?_
            refine gw_aload_n hx hb dX9_pass_118 rfl (lv_at hl 0 rfl) ?_
            refine lv_iload_n hx hb dX9_pass_119 rfl (lv_at hl 1 rfl) ?_
            refine lv_iconst (v := 1) hx hb dX9_pass_120 kc_i_1 ?_
            refine gw_callV (rest := [.int v8, .int 6, va_rf x0]) C I hl.1 gcls_8 (m_X9_pair G l x0 x1 1) gl_RX9_320 gn_X9_pair ⟨Nat.le_of_ble_eq_true rfl, Nat.le_of_ble_eq_true rfl⟩ rfl (gc4 (Nat.le_of_ble_eq_true rfl)) rfl dX9_pass_121 hf (fun v9 σ H locs cells slots I hf => ?_)
            refine W.eq (g2 := F0 m 124 ls [.int v9, .int v8, .int 6, va_rf x0]) rfl ?_
            refine gw_aload_n hx hb dX9_pass_124 rfl (lv_at hl 0 rfl) ?_
            refine lv_iload_n hx hb dX9_pass_125 rfl (lv_at hl 1 rfl) ?_
            refine lv_iconst (v := 2) hx hb dX9_pass_126 kc_i_2 ?_
            refine gw_callV (rest := [.int v9, .int v8, .int 6, va_rf x0]) C I hl.1 gcls_8 (m_X9_pair G l x0 x1 2) gl_RX9_320 gn_X9_pair ⟨Nat.le_of_ble_eq_true rfl, Nat.le_of_ble_eq_true rfl⟩ rfl (gc4 (Nat.le_of_ble_eq_true rfl)) rfl dX9_pass_127 hf (fun v10 σ H locs cells slots I hf => ?_)
            refine W.eq (g2 := F0 m 130 ls [.int v10, .int v9, .int v8, .int 6, va_rf x0]) rfl ?_
            refine gw_aload_n hx hb dX9_pass_130 rfl (lv_at hl 0 rfl) ?_
            refine lv_iload_n hx hb dX9_pass_131 rfl (lv_at hl 1 rfl) ?_
            refine lv_iconst (v := 3) hx hb dX9_pass_132 kc_i_3 ?_
            refine gw_callV (rest := [.int v10, .int v9, .int v8, .int 6, va_rf x0]) C I hl.1 gcls_8 (m_X9_pair G l x0 x1 3) gl_RX9_320 gn_X9_pair ⟨Nat.le_of_ble_eq_true rfl, Nat.le_of_ble_eq_true rfl⟩ rfl (by simp [grc, gcat_i, gcat_l]) rfl dX9_pass_133 hf (fun v11 σ H locs cells slots I hf => ?_)
            refine W.eq (g2 := F0 m 136 ls [.int v11, .int v10, .int v9, .int v8, .int 6, va_rf x0]) rfl ?_
            refine gw_callV (rest := []) C I hl.1 gcls_8 (m_X9_isInRange G l x0 6 v8 v9 v10 v11) gl_RX9_316 gn_X9_isInRange ⟨Nat.le_of_ble_eq_true rfl, Nat.le_of_ble_eq_true rfl⟩ rfl (gc4 (Nat.le_of_ble_eq_true rfl)) rfl dX9_pass_136 hf (fun v12 σ H locs cells slots I hf => ?_)
            refine W.eq (g2 := F0 m 139 ls [.int v12]) rfl ?_
            refine lv_if_eq (tgt := 146) hx hb dX9_pass_139 (by decide) (fun hq => ?_) (fun hq => ?_)
            · have hf := gift hq hf
              refine lv_iconst (v := 5) hx hb dX9_pass_146 kc_i_5 ?_
              exact gw_iret C I hr dX9_pass_147 hf
            · have hf := giff hq hf
              refine lv_iconst (v := 0) hx hb dX9_pass_142 kc_i_0 ?_
              refine lv_goto (tgt := 147) hx hb dX9_pass_143 (by decide) ?_
              exact gw_iret C I hr dX9_pass_147 hf
        · have hf := gift hq hf
          refine gw_aload_n hx hb dX9_pass_72 rfl (lv_at hl 0 rfl) ?_
          refine lv_iconst (v := 4) hx hb dX9_pass_73 kc_i_4 ?_
          refine gw_aload_n hx hb dX9_pass_74 rfl (lv_at hl 0 rfl) ?_
          refine gw_getr (k := 6) C I gcls_8 (by decide) rfl kw_170 dX9_pass_75 hf (fun v13 hf => ?_)
          refine lv_bipush (v := 8) hx hb dX9_pass_78 kc_b_8 ?_
          refine lv_iload_n hx hb dX9_pass_80 rfl (lv_at hl 1 rfl) ?_
          refine lv_imul hx hb dX9_pass_81 ?_
          refine gw_iald C I dX9_pass_82 hf (fun v14 hf => ?_)
          refine lv_iconst (v := 0) hx hb dX9_pass_83 kc_i_0 ?_
          refine lv_iconst (v := 0) hx hb dX9_pass_84 kc_i_0 ?_
          refine lv_iconst (v := 0) hx hb dX9_pass_85 kc_i_0 ?_
          refine gw_callV (rest := []) C I hl.1 gcls_8 (m_X9_isInRange G l x0 4 v14 0 0 0) gl_RX9_316 gn_X9_isInRange ⟨Nat.le_of_ble_eq_true rfl, Nat.le_of_ble_eq_true rfl⟩ rfl (gc4 (Nat.le_of_ble_eq_true rfl)) rfl dX9_pass_86 hf (fun v15 σ H locs cells slots I hf => ?_)
          refine W.eq (g2 := F0 m 89 ls [.int v15]) rfl ?_
          refine lv_if_eq (tgt := 96) hx hb dX9_pass_89 (by decide) (fun hq => ?_) (fun hq => ?_)
          · have hf := gift hq hf
            refine lv_iconst (v := 5) hx hb dX9_pass_96 kc_i_5 ?_
            exact gw_iret C I hr dX9_pass_97 hf
          · have hf := giff hq hf
            refine lv_iconst (v := 0) hx hb dX9_pass_92 kc_i_0 ?_
            refine lv_goto (tgt := 97) hx hb dX9_pass_93 (by decide) ?_
            exact gw_iret C I hr dX9_pass_97 hf
      · have hf := gift hq hf
        refine lv_iconst (v := 3) hx hb dX9_pass_60 kc_i_3 ?_
        exact gw_iret C I hr dX9_pass_61 hf
    · have hf := giff hq hf
      refine lv_iconst (v := 2) hx hb dX9_pass_50 kc_i_2 ?_
      exact gw_iret C I hr dX9_pass_51 hf
set_option maxHeartbeats 4000000 in
set_option maxRecDepth 100000 in
theorem w_X9_pass_0 (C : gC G p s m args meth c cX9_pass 7 RX9) (hr : meth.sig.returnType = (some .int))  (a0 : Option Nat) (a1 : Int32) : gJ G p l e 2 48 mc ms s m args below meth c gri y 7 0 [(0, va_rf a0), (1, .int a1)] [] (f_X9_pass  a0 a1) := by
  have hx := C.1
  have hb := C.2.1
  intro σ H locs cells slots ls hf I hl
  unfold f_X9_pass at hf
  refine gw_aload_n hx hb dX9_pass_0 rfl (lv_at hl 0 rfl) ?_
  refine lv_iload_n hx hb dX9_pass_1 rfl (lv_at hl 1 rfl) ?_
  refine gw_callV (rest := []) C I hl.1 gcls_8 (m_X9_has G l a0 a1) gl_RX9_157 gn_X9_has ⟨Nat.le_of_ble_eq_true rfl, Nat.le_of_ble_eq_true rfl⟩ rfl (gc4 (Nat.le_of_ble_eq_true rfl)) rfl dX9_pass_2 hf (fun v1 σ H locs cells slots I hf => ?_)
  refine W.eq (g2 := F0 m 5 ls [.int v1]) rfl ?_
  refine lv_if_ne (tgt := 11) hx hb dX9_pass_5 (by decide) (fun hq => ?_) (fun hq => ?_)
  · have hf := giff hq hf
    refine gw_aload_n hx hb dX9_pass_11 rfl (lv_at hl 0 rfl) ?_
    refine gw_getr (k := 3) C I gcls_8 (by decide) rfl kw_167 dX9_pass_12 hf (fun v2 hf => ?_)
    refine lv_iload_n hx hb dX9_pass_15 rfl (lv_at hl 1 rfl) ?_
    refine gw_iald C I dX9_pass_16 hf (fun v3 hf => ?_)
    refine lv_if_eq (tgt := 32) hx hb dX9_pass_17 (by decide) (fun hq => ?_) (fun hq => ?_)
    · have hf := gift hq hf
      exact w_X9_pass_32 C hr  a0 a1 _ _ _ _ _ _ hf I (lv_sub hl [0, 1] rfl)
    · have hf := giff hq hf
      refine gw_aload_n hx hb dX9_pass_20 rfl (lv_at hl 0 rfl) ?_
      refine gw_getr (k := 3) C I gcls_8 (by decide) rfl kw_167 dX9_pass_21 hf (fun v4 hf => ?_)
      refine lv_iload_n hx hb dX9_pass_24 rfl (lv_at hl 1 rfl) ?_
      refine gw_iald C I dX9_pass_25 hf (fun v5 hf => ?_)
      refine lv_iconst (v := 2) hx hb dX9_pass_26 kc_i_2 ?_
      refine lv_icmp_eq (tgt := 32) hx hb dX9_pass_27 (by decide) (fun hq => ?_) (fun hq => ?_)
      · have hf := gift hq hf
        exact w_X9_pass_32 C hr  a0 a1 _ _ _ _ _ _ hf I (lv_sub hl [0, 1] rfl)
      · have hf := giff hq hf
        refine lv_iconst (v := 1) hx hb dX9_pass_30 kc_i_1 ?_
        exact gw_iret C I hr dX9_pass_31 hf
  · have hf := gift hq hf
    refine lv_bipush (v := (-2)) hx hb dX9_pass_8 kc_b_m2 ?_
    exact gw_iret C I hr dX9_pass_10 hf
end S_X9_pass
theorem m_X9_pass (G : gX) (l : Launch) (a0 : Option Nat) (a1 : Int32) : gMet G l yX9_pass cX9_pass 7 (some .int) 2 48 [va_rf a0, .int a1] gri (f_X9_pass a0 a1) := by
  refine gMet_of (by decide) ?_
  intro σ y p e s m below meth c mc ms hf C hr hnm I
  obtain ⟨ls, e1, hl⟩ := gentry m [va_rf a0, .int a1] 7 [(0, va_rf a0), (1, .int a1)] (by simp [lg_sl, grc, gcat_i, gcat_l]) (by simp [lv_args, grc, gcat_i, gcat_l])
  rw [e1]
  exact w_X9_pass_0 C hr a0 a1 _ _ _ _ _ _ hf I hl
