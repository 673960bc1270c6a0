theorem dX9_writtenLength_0 : decode cX9_writtenLength 0 = .ok (.aload_n 0, 1) := by decide +kernel
theorem dX9_writtenLength_1 : decode cX9_writtenLength 1 = .ok (.iload_n 1, 1) := by decide +kernel
theorem dX9_writtenLength_2 : decode cX9_writtenLength 2 = .ok (.invokevirtual 281, 3) := by decide +kernel
theorem dX9_writtenLength_5 : decode cX9_writtenLength 5 = .ok (.aload_n 0, 1) := by decide +kernel
theorem dX9_writtenLength_6 : decode cX9_writtenLength 6 = .ok (.iload_n 1, 1) := by decide +kernel
theorem dX9_writtenLength_7 : decode cX9_writtenLength 7 = .ok (.iconst 0, 1) := by decide +kernel
theorem dX9_writtenLength_8 : decode cX9_writtenLength 8 = .ok (.invokevirtual 107, 3) := by decide +kernel
theorem dX9_writtenLength_11 : decode cX9_writtenLength 11 = .ok (.istore_n 2, 1) := by decide +kernel
theorem dX9_writtenLength_12 : decode cX9_writtenLength 12 = .ok (.aload_n 0, 1) := by decide +kernel
theorem dX9_writtenLength_13 : decode cX9_writtenLength 13 = .ok (.iload_n 1, 1) := by decide +kernel
theorem dX9_writtenLength_14 : decode cX9_writtenLength 14 = .ok (.iconst 1, 1) := by decide +kernel
theorem dX9_writtenLength_15 : decode cX9_writtenLength 15 = .ok (.invokevirtual 107, 3) := by decide +kernel
theorem dX9_writtenLength_18 : decode cX9_writtenLength 18 = .ok (.istore_n 3, 1) := by decide +kernel
theorem dX9_writtenLength_19 : decode cX9_writtenLength 19 = .ok (.aload_n 0, 1) := by decide +kernel
theorem dX9_writtenLength_20 : decode cX9_writtenLength 20 = .ok (.getfield 17, 3) := by decide +kernel
theorem dX9_writtenLength_23 : decode cX9_writtenLength 23 = .ok (.iload_n 1, 1) := by decide +kernel
theorem dX9_writtenLength_24 : decode cX9_writtenLength 24 = .ok (.iaload, 1) := by decide +kernel
theorem dX9_writtenLength_25 : decode cX9_writtenLength 25 = .ok (.invokestatic 148, 3) := by decide +kernel
theorem dX9_writtenLength_28 : decode cX9_writtenLength 28 = .ok (.iconst 3, 1) := by decide +kernel
theorem dX9_writtenLength_29 : decode cX9_writtenLength 29 = .ok (.iadd, 1) := by decide +kernel
theorem dX9_writtenLength_30 : decode cX9_writtenLength 30 = .ok (.aload_n 0, 1) := by decide +kernel
theorem dX9_writtenLength_31 : decode cX9_writtenLength 31 = .ok (.getfield 266, 3) := by decide +kernel
theorem dX9_writtenLength_34 : decode cX9_writtenLength 34 = .ok (.iadd, 1) := by decide +kernel
theorem dX9_writtenLength_35 : decode cX9_writtenLength 35 = .ok (.aload_n 0, 1) := by decide +kernel
theorem dX9_writtenLength_36 : decode cX9_writtenLength 36 = .ok (.iload_n 1, 1) := by decide +kernel
theorem dX9_writtenLength_37 : decode cX9_writtenLength 37 = .ok (.iconst 3, 1) := by decide +kernel
theorem dX9_writtenLength_38 : decode cX9_writtenLength 38 = .ok (.invokevirtual 107, 3) := by decide +kernel
theorem dX9_writtenLength_41 : decode cX9_writtenLength 41 = .ok (.iadd, 1) := by decide +kernel
theorem dX9_writtenLength_42 : decode cX9_writtenLength 42 = .ok (.istore 4, 2) := by decide +kernel
theorem dX9_writtenLength_44 : decode cX9_writtenLength 44 = .ok (.iload 4, 2) := by decide +kernel
theorem dX9_writtenLength_46 : decode cX9_writtenLength 46 = .ok (.iload_n 2, 1) := by decide +kernel
theorem dX9_writtenLength_47 : decode cX9_writtenLength 47 = .ok (.ifCond .gt 7, 3) := by decide +kernel
theorem dX9_writtenLength_50 : decode cX9_writtenLength 50 = .ok (.iload_n 3, 1) := by decide +kernel
theorem dX9_writtenLength_51 : decode cX9_writtenLength 51 = .ok (.ifCond .le 9, 3) := by decide +kernel
theorem dX9_writtenLength_54 : decode cX9_writtenLength 54 = .ok (.iload_n 2, 1) := by decide +kernel
theorem dX9_writtenLength_55 : decode cX9_writtenLength 55 = .ok (.iconst 1, 1) := by decide +kernel
theorem dX9_writtenLength_56 : decode cX9_writtenLength 56 = .ok (.iadd, 1) := by decide +kernel
theorem dX9_writtenLength_57 : decode cX9_writtenLength 57 = .ok (.goto 4, 3) := by decide +kernel
theorem dX9_writtenLength_60 : decode cX9_writtenLength 60 = .ok (.iconst 0, 1) := by decide +kernel
theorem dX9_writtenLength_61 : decode cX9_writtenLength 61 = .ok (.iadd, 1) := by decide +kernel
theorem dX9_writtenLength_62 : decode cX9_writtenLength 62 = .ok (.istore 4, 2) := by decide +kernel
theorem dX9_writtenLength_64 : decode cX9_writtenLength 64 = .ok (.iload 4, 2) := by decide +kernel
theorem dX9_writtenLength_66 : decode cX9_writtenLength 66 = .ok (.iload_n 3, 1) := by decide +kernel
theorem dX9_writtenLength_67 : decode cX9_writtenLength 67 = .ok (.ifCond .le 9, 3) := by decide +kernel
theorem dX9_writtenLength_70 : decode cX9_writtenLength 70 = .ok (.iload_n 3, 1) := by decide +kernel
theorem dX9_writtenLength_71 : decode cX9_writtenLength 71 = .ok (.iconst 1, 1) := by decide +kernel
theorem dX9_writtenLength_72 : decode cX9_writtenLength 72 = .ok (.iadd, 1) := by decide +kernel
theorem dX9_writtenLength_73 : decode cX9_writtenLength 73 = .ok (.goto 4, 3) := by decide +kernel
theorem dX9_writtenLength_76 : decode cX9_writtenLength 76 = .ok (.iconst 0, 1) := by decide +kernel
theorem dX9_writtenLength_77 : decode cX9_writtenLength 77 = .ok (.iadd, 1) := by decide +kernel
theorem dX9_writtenLength_78 : decode cX9_writtenLength 78 = .ok (.istore 4, 2) := by decide +kernel
theorem dX9_writtenLength_80 : decode cX9_writtenLength 80 = .ok (.iload 4, 2) := by decide +kernel
theorem dX9_writtenLength_82 : decode cX9_writtenLength 82 = .ok (.aload_n 0, 1) := by decide +kernel
theorem dX9_writtenLength_83 : decode cX9_writtenLength 83 = .ok (.getfield 21, 3) := by decide +kernel
theorem dX9_writtenLength_86 : decode cX9_writtenLength 86 = .ok (.iload_n 1, 1) := by decide +kernel
theorem dX9_writtenLength_87 : decode cX9_writtenLength 87 = .ok (.iaload, 1) := by decide +kernel
theorem dX9_writtenLength_88 : decode cX9_writtenLength 88 = .ok (.ifCond .lt 17, 3) := by decide +kernel
theorem dX9_writtenLength_91 : decode cX9_writtenLength 91 = .ok (.iconst 1, 1) := by decide +kernel
theorem dX9_writtenLength_92 : decode cX9_writtenLength 92 = .ok (.aload_n 0, 1) := by decide +kernel
theorem dX9_writtenLength_93 : decode cX9_writtenLength 93 = .ok (.getfield 21, 3) := by decide +kernel
theorem dX9_writtenLength_96 : decode cX9_writtenLength 96 = .ok (.iload_n 1, 1) := by decide +kernel
theorem dX9_writtenLength_97 : decode cX9_writtenLength 97 = .ok (.iaload, 1) := by decide +kernel
theorem dX9_writtenLength_98 : decode cX9_writtenLength 98 = .ok (.invokestatic 284, 3) := by decide +kernel
theorem dX9_writtenLength_101 : decode cX9_writtenLength 101 = .ok (.iadd, 1) := by decide +kernel
theorem dX9_writtenLength_102 : decode cX9_writtenLength 102 = .ok (.goto 4, 3) := by decide +kernel
theorem dX9_writtenLength_105 : decode cX9_writtenLength 105 = .ok (.iconst 0, 1) := by decide +kernel
theorem dX9_writtenLength_106 : decode cX9_writtenLength 106 = .ok (.iadd, 1) := by decide +kernel
theorem dX9_writtenLength_107 : decode cX9_writtenLength 107 = .ok (.istore 4, 2) := by decide +kernel
theorem dX9_writtenLength_109 : decode cX9_writtenLength 109 = .ok (.iload 4, 2) := by decide +kernel
theorem dX9_writtenLength_111 : decode cX9_writtenLength 111 = .ok (.aload_n 0, 1) := by decide +kernel
theorem dX9_writtenLength_112 : decode cX9_writtenLength 112 = .ok (.getfield 30, 3) := by decide +kernel
theorem dX9_writtenLength_115 : decode cX9_writtenLength 115 = .ok (.iload_n 1, 1) := by decide +kernel
theorem dX9_writtenLength_116 : decode cX9_writtenLength 116 = .ok (.baload, 1) := by decide +kernel
theorem dX9_writtenLength_117 : decode cX9_writtenLength 117 = .ok (.ifCond .eq 14, 3) := by decide +kernel
theorem dX9_writtenLength_120 : decode cX9_writtenLength 120 = .ok (.iconst 1, 1) := by decide +kernel
theorem dX9_writtenLength_121 : decode cX9_writtenLength 121 = .ok (.aload_n 0, 1) := by decide +kernel
theorem dX9_writtenLength_122 : decode cX9_writtenLength 122 = .ok (.iload_n 1, 1) := by decide +kernel
theorem dX9_writtenLength_123 : decode cX9_writtenLength 123 = .ok (.iconst 4, 1) := by decide +kernel
theorem dX9_writtenLength_124 : decode cX9_writtenLength 124 = .ok (.invokevirtual 107, 3) := by decide +kernel
theorem dX9_writtenLength_127 : decode cX9_writtenLength 127 = .ok (.iadd, 1) := by decide +kernel
theorem dX9_writtenLength_128 : decode cX9_writtenLength 128 = .ok (.goto 4, 3) := by decide +kernel
theorem dX9_writtenLength_131 : decode cX9_writtenLength 131 = .ok (.iconst 0, 1) := by decide +kernel
theorem dX9_writtenLength_132 : decode cX9_writtenLength 132 = .ok (.iadd, 1) := by decide +kernel
theorem dX9_writtenLength_133 : decode cX9_writtenLength 133 = .ok (.istore 4, 2) := by decide +kernel
theorem dX9_writtenLength_135 : decode cX9_writtenLength 135 = .ok (.iload 4, 2) := by decide +kernel
theorem dX9_writtenLength_137 : decode cX9_writtenLength 137 = .ok (.aload_n 0, 1) := by decide +kernel
theorem dX9_writtenLength_138 : decode cX9_writtenLength 138 = .ok (.getfield 33, 3) := by decide +kernel
theorem dX9_writtenLength_141 : decode cX9_writtenLength 141 = .ok (.iload_n 1, 1) := by decide +kernel
theorem dX9_writtenLength_142 : decode cX9_writtenLength 142 = .ok (.baload, 1) := by decide +kernel
theorem dX9_writtenLength_143 : decode cX9_writtenLength 143 = .ok (.ifCond .eq 14, 3) := by decide +kernel
theorem dX9_writtenLength_146 : decode cX9_writtenLength 146 = .ok (.iconst 1, 1) := by decide +kernel
theorem dX9_writtenLength_147 : decode cX9_writtenLength 147 = .ok (.aload_n 0, 1) := by decide +kernel
theorem dX9_writtenLength_148 : decode cX9_writtenLength 148 = .ok (.iload_n 1, 1) := by decide +kernel
theorem dX9_writtenLength_149 : decode cX9_writtenLength 149 = .ok (.iconst 5, 1) := by decide +kernel
theorem dX9_writtenLength_150 : decode cX9_writtenLength 150 = .ok (.invokevirtual 107, 3) := by decide +kernel
theorem dX9_writtenLength_153 : decode cX9_writtenLength 153 = .ok (.iadd, 1) := by decide +kernel
theorem dX9_writtenLength_154 : decode cX9_writtenLength 154 = .ok (.goto 4, 3) := by decide +kernel
theorem dX9_writtenLength_157 : decode cX9_writtenLength 157 = .ok (.iconst 0, 1) := by decide +kernel
theorem dX9_writtenLength_158 : decode cX9_writtenLength 158 = .ok (.iadd, 1) := by decide +kernel
theorem dX9_writtenLength_159 : decode cX9_writtenLength 159 = .ok (.ireturn, 1) := by decide +kernel
theorem dX9_read_0 : decode cX9_read 0 = .ok (.iload_n 1, 1) := by decide +kernel
theorem dX9_read_1 : decode cX9_read 1 = .ok (.iconst 0, 1) := by decide +kernel
theorem dX9_read_2 : decode cX9_read 2 = .ok (.iconst 3, 1) := by decide +kernel
theorem dX9_read_3 : decode cX9_read 3 = .ok (.invokestatic 91, 3) := by decide +kernel
theorem dX9_read_6 : decode cX9_read 6 = .ok (.ifCond .eq 16, 3) := by decide +kernel
theorem dX9_read_9 : decode cX9_read 9 = .ok (.iload_n 2, 1) := by decide +kernel
theorem dX9_read_10 : decode cX9_read 10 = .ok (.iconst (-1), 1) := by decide +kernel
theorem dX9_read_11 : decode cX9_read 11 = .ok (.if_icmp .eq 14, 3) := by decide +kernel
theorem dX9_read_14 : decode cX9_read 14 = .ok (.aload_n 0, 1) := by decide +kernel
theorem dX9_read_15 : decode cX9_read 15 = .ok (.iload_n 2, 1) := by decide +kernel
theorem dX9_read_16 : decode cX9_read 16 = .ok (.invokevirtual 157, 3) := by decide +kernel
theorem dX9_read_19 : decode cX9_read 19 = .ok (.ifCond .ne 6, 3) := by decide +kernel
theorem dX9_read_22 : decode cX9_read 22 = .ok (.bipush (-2), 2) := by decide +kernel
theorem dX9_read_24 : decode cX9_read 24 = .ok (.ireturn, 1) := by decide +kernel
theorem dX9_read_25 : decode cX9_read 25 = .ok (.aload_n 0, 1) := by decide +kernel
theorem dX9_read_26 : decode cX9_read 26 = .ok (.invokevirtual 160, 3) := by decide +kernel
theorem dX9_read_29 : decode cX9_read 29 = .ok (.aload_n 0, 1) := by decide +kernel
theorem dX9_read_30 : decode cX9_read 30 = .ok (.iconst 0, 1) := by decide +kernel
theorem dX9_read_31 : decode cX9_read 31 = .ok (.putfield 103, 3) := by decide +kernel
theorem dX9_read_34 : decode cX9_read 34 = .ok (.iconst 0, 1) := by decide +kernel
theorem dX9_read_35 : decode cX9_read 35 = .ok (.istore_n 3, 1) := by decide +kernel
theorem dX9_read_36 : decode cX9_read 36 = .ok (.iload_n 3, 1) := by decide +kernel
theorem dX9_read_37 : decode cX9_read 37 = .ok (.bipush 6, 2) := by decide +kernel
theorem dX9_read_39 : decode cX9_read 39 = .ok (.if_icmp .ge 19, 3) := by decide +kernel
theorem dX9_read_42 : decode cX9_read 42 = .ok (.aload_n 0, 1) := by decide +kernel
theorem dX9_read_43 : decode cX9_read 43 = .ok (.getfield 40, 3) := by decide +kernel
theorem dX9_read_46 : decode cX9_read 46 = .ok (.bipush 24, 2) := by decide +kernel
theorem dX9_read_48 : decode cX9_read 48 = .ok (.iload_n 3, 1) := by decide +kernel
theorem dX9_read_49 : decode cX9_read 49 = .ok (.iadd, 1) := by decide +kernel
theorem dX9_read_50 : decode cX9_read 50 = .ok (.iconst 0, 1) := by decide +kernel
theorem dX9_read_51 : decode cX9_read 51 = .ok (.iastore, 1) := by decide +kernel
theorem dX9_read_52 : decode cX9_read 52 = .ok (.iinc 3 1, 3) := by decide +kernel
theorem dX9_read_55 : decode cX9_read 55 = .ok (.goto (-19), 3) := by decide +kernel
theorem dX9_read_58 : decode cX9_read 58 = .ok (.aload_n 0, 1) := by decide +kernel
theorem dX9_read_59 : decode cX9_read 59 = .ok (.getfield 30, 3) := by decide +kernel
theorem dX9_read_62 : decode cX9_read 62 = .ok (.iconst 4, 1) := by decide +kernel
theorem dX9_read_63 : decode cX9_read 63 = .ok (.iconst 0, 1) := by decide +kernel
theorem dX9_read_64 : decode cX9_read 64 = .ok (.bastore, 1) := by decide +kernel
theorem dX9_read_65 : decode cX9_read 65 = .ok (.aload_n 0, 1) := by decide +kernel
theorem dX9_read_66 : decode cX9_read 66 = .ok (.getfield 33, 3) := by decide +kernel
theorem dX9_read_69 : decode cX9_read 69 = .ok (.iconst 4, 1) := by decide +kernel
theorem dX9_read_70 : decode cX9_read 70 = .ok (.iconst 0, 1) := by decide +kernel
theorem dX9_read_71 : decode cX9_read 71 = .ok (.bastore, 1) := by decide +kernel
theorem dX9_read_72 : decode cX9_read 72 = .ok (.aload_n 0, 1) := by decide +kernel
theorem dX9_read_73 : decode cX9_read 73 = .ok (.getfield 21, 3) := by decide +kernel
theorem dX9_read_76 : decode cX9_read 76 = .ok (.iconst 4, 1) := by decide +kernel
theorem dX9_read_77 : decode cX9_read 77 = .ok (.iconst (-1), 1) := by decide +kernel
theorem dX9_read_78 : decode cX9_read 78 = .ok (.iastore, 1) := by decide +kernel
theorem dX9_read_79 : decode cX9_read 79 = .ok (.aload_n 0, 1) := by decide +kernel
theorem dX9_read_80 : decode cX9_read 80 = .ok (.iconst 0, 1) := by decide +kernel
theorem dX9_read_81 : decode cX9_read 81 = .ok (.putfield 163, 3) := by decide +kernel
theorem dX9_read_84 : decode cX9_read 84 = .ok (.aload_n 0, 1) := by decide +kernel
theorem dX9_read_85 : decode cX9_read 85 = .ok (.iload_n 2, 1) := by decide +kernel
theorem dX9_read_86 : decode cX9_read 86 = .ok (.invokevirtual 166, 3) := by decide +kernel
theorem dX9_read_89 : decode cX9_read 89 = .ok (.aload_n 0, 1) := by decide +kernel
theorem dX9_read_90 : decode cX9_read 90 = .ok (.getfield 163, 3) := by decide +kernel
theorem dX9_read_93 : decode cX9_read 93 = .ok (.ifCond .ne 20, 3) := by decide +kernel
theorem dX9_read_96 : decode cX9_read 96 = .ok (.aload_n 0, 1) := by decide +kernel
theorem dX9_read_97 : decode cX9_read 97 = .ok (.iconst 4, 1) := by decide +kernel
theorem dX9_read_98 : decode cX9_read 98 = .ok (.invokevirtual 170, 3) := by decide +kernel
theorem dX9_read_101 : decode cX9_read 101 = .ok (.sipush 1000, 3) := by decide +kernel
theorem dX9_read_104 : decode cX9_read 104 = .ok (.if_icmp .le 9, 3) := by decide +kernel
theorem dX9_read_107 : decode cX9_read 107 = .ok (.aload_n 0, 1) := by decide +kernel
theorem dX9_read_108 : decode cX9_read 108 = .ok (.bipush (-3), 2) := by decide +kernel
theorem dX9_read_110 : decode cX9_read 110 = .ok (.putfield 163, 3) := by decide +kernel
theorem dX9_read_113 : decode cX9_read 113 = .ok (.aload_n 0, 1) := by decide +kernel
theorem dX9_read_114 : decode cX9_read 114 = .ok (.getfield 163, 3) := by decide +kernel
theorem dX9_read_117 : decode cX9_read 117 = .ok (.ifCond .eq 8, 3) := by decide +kernel
theorem dX9_read_120 : decode cX9_read 120 = .ok (.aload_n 0, 1) := by decide +kernel
theorem dX9_read_121 : decode cX9_read 121 = .ok (.getfield 163, 3) := by decide +kernel
theorem dX9_read_124 : decode cX9_read 124 = .ok (.ireturn, 1) := by decide +kernel
theorem dX9_read_125 : decode cX9_read 125 = .ok (.aload_n 0, 1) := by decide +kernel
theorem dX9_read_126 : decode cX9_read 126 = .ok (.getfield 13, 3) := by decide +kernel
theorem dX9_read_129 : decode cX9_read 129 = .ok (.iload_n 1, 1) := by decide +kernel
theorem dX9_read_130 : decode cX9_read 130 = .ok (.iconst 1, 1) := by decide +kernel
theorem dX9_read_131 : decode cX9_read 131 = .ok (.bastore, 1) := by decide +kernel
theorem dX9_read_132 : decode cX9_read 132 = .ok (.aload_n 0, 1) := by decide +kernel
theorem dX9_read_133 : decode cX9_read 133 = .ok (.iconst 4, 1) := by decide +kernel
theorem dX9_read_134 : decode cX9_read 134 = .ok (.iload_n 1, 1) := by decide +kernel
theorem dX9_read_135 : decode cX9_read 135 = .ok (.invokevirtual 173, 3) := by decide +kernel
theorem dX9_read_138 : decode cX9_read 138 = .ok (.iconst 3, 1) := by decide +kernel
theorem dX9_read_139 : decode cX9_read 139 = .ok (.istore_n 3, 1) := by decide +kernel
theorem dX9_read_140 : decode cX9_read 140 = .ok (.iload_n 3, 1) := by decide +kernel
theorem dX9_read_141 : decode cX9_read 141 = .ok (.bipush 6, 2) := by decide +kernel
theorem dX9_read_143 : decode cX9_read 143 = .ok (.if_icmp .ge 16, 3) := by decide +kernel
theorem dX9_read_146 : decode cX9_read 146 = .ok (.aload_n 0, 1) := by decide +kernel
theorem dX9_read_147 : decode cX9_read 147 = .ok (.iconst 4, 1) := by decide +kernel
theorem dX9_read_148 : decode cX9_read 148 = .ok (.iload_n 1, 1) := by decide +kernel
theorem dX9_read_149 : decode cX9_read 149 = .ok (.iload_n 3, 1) := by decide +kernel
theorem dX9_read_150 : decode cX9_read 150 = .ok (.invokevirtual 114, 3) := by decide +kernel
theorem dX9_read_153 : decode cX9_read 153 = .ok (.iinc 3 1, 3) := by decide +kernel
theorem dX9_read_156 : decode cX9_read 156 = .ok (.goto (-16), 3) := by decide +kernel
theorem dX9_read_159 : decode cX9_read 159 = .ok (.aload_n 0, 1) := by decide +kernel
theorem dX9_read_160 : decode cX9_read 160 = .ok (.getfield 30, 3) := by decide +kernel
theorem dX9_read_163 : decode cX9_read 163 = .ok (.iload_n 1, 1) := by decide +kernel
theorem dX9_read_164 : decode cX9_read 164 = .ok (.aload_n 0, 1) := by decide +kernel
theorem dX9_read_165 : decode cX9_read 165 = .ok (.getfield 30, 3) := by decide +kernel
theorem dX9_read_168 : decode cX9_read 168 = .ok (.iconst 4, 1) := by decide +kernel
theorem dX9_read_169 : decode cX9_read 169 = .ok (.baload, 1) := by decide +kernel
theorem dX9_read_170 : decode cX9_read 170 = .ok (.bastore, 1) := by decide +kernel
theorem dX9_read_171 : decode cX9_read 171 = .ok (.aload_n 0, 1) := by decide +kernel
theorem dX9_read_172 : decode cX9_read 172 = .ok (.getfield 33, 3) := by decide +kernel
theorem dX9_read_175 : decode cX9_read 175 = .ok (.iload_n 1, 1) := by decide +kernel
theorem dX9_read_176 : decode cX9_read 176 = .ok (.aload_n 0, 1) := by decide +kernel
theorem dX9_read_177 : decode cX9_read 177 = .ok (.getfield 33, 3) := by decide +kernel
theorem dX9_read_180 : decode cX9_read 180 = .ok (.iconst 4, 1) := by decide +kernel
theorem dX9_read_181 : decode cX9_read 181 = .ok (.baload, 1) := by decide +kernel
theorem dX9_read_182 : decode cX9_read 182 = .ok (.bastore, 1) := by decide +kernel
theorem dX9_read_183 : decode cX9_read 183 = .ok (.iconst 0, 1) := by decide +kernel
theorem dX9_read_184 : decode cX9_read 184 = .ok (.ireturn, 1) := by decide +kernel
theorem dX9_say_0 : decode cX9_say 0 = .ok (.aload_n 0, 1) := by decide +kernel
theorem dX9_say_1 : decode cX9_say 1 = .ok (.getfield 7, 3) := by decide +kernel
theorem dX9_say_4 : decode cX9_say 4 = .ok (.aload_n 0, 1) := by decide +kernel
theorem dX9_say_5 : decode cX9_say 5 = .ok (.getfield 103, 3) := by decide +kernel
theorem dX9_say_8 : decode cX9_say 8 = .ok (.iload_n 1, 1) := by decide +kernel
theorem dX9_say_9 : decode cX9_say 9 = .ok (.i2b, 1) := by decide +kernel
theorem dX9_say_10 : decode cX9_say 10 = .ok (.bastore, 1) := by decide +kernel
theorem dX9_say_11 : decode cX9_say 11 = .ok (.aload_n 0, 1) := by decide +kernel
theorem dX9_say_12 : decode cX9_say 12 = .ok (.dup, 1) := by decide +kernel
theorem dX9_say_13 : decode cX9_say 13 = .ok (.getfield 103, 3) := by decide +kernel
theorem dX9_say_16 : decode cX9_say 16 = .ok (.iconst 1, 1) := by decide +kernel
theorem dX9_say_17 : decode cX9_say 17 = .ok (.iadd, 1) := by decide +kernel
theorem dX9_say_18 : decode cX9_say 18 = .ok (.putfield 103, 3) := by decide +kernel
theorem dX9_say_21 : decode cX9_say 21 = .ok (.return_, 1) := by decide +kernel
theorem dX9_sayPart_0 : decode cX9_sayPart 0 = .ok (.iconst 0, 1) := by decide +kernel
theorem dX9_sayPart_1 : decode cX9_sayPart 1 = .ok (.istore_n 3, 1) := by decide +kernel
theorem dX9_sayPart_2 : decode cX9_sayPart 2 = .ok (.iload_n 3, 1) := by decide +kernel
theorem dX9_sayPart_3 : decode cX9_sayPart 3 = .ok (.aload_n 0, 1) := by decide +kernel
theorem dX9_sayPart_4 : decode cX9_sayPart 4 = .ok (.iload_n 1, 1) := by decide +kernel
theorem dX9_sayPart_5 : decode cX9_sayPart 5 = .ok (.iload_n 2, 1) := by decide +kernel
theorem dX9_sayPart_6 : decode cX9_sayPart 6 = .ok (.invokevirtual 107, 3) := by decide +kernel
theorem dX9_sayPart_9 : decode cX9_sayPart 9 = .ok (.if_icmp .ge 26, 3) := by decide +kernel
theorem dX9_sayPart_12 : decode cX9_sayPart 12 = .ok (.aload_n 0, 1) := by decide +kernel
theorem dX9_sayPart_13 : decode cX9_sayPart 13 = .ok (.aload_n 0, 1) := by decide +kernel
theorem dX9_sayPart_14 : decode cX9_sayPart 14 = .ok (.getfield 37, 3) := by decide +kernel
theorem dX9_sayPart_17 : decode cX9_sayPart 17 = .ok (.aload_n 0, 1) := by decide +kernel
theorem dX9_sayPart_18 : decode cX9_sayPart 18 = .ok (.iload_n 1, 1) := by decide +kernel
theorem dX9_sayPart_19 : decode cX9_sayPart 19 = .ok (.iload_n 2, 1) := by decide +kernel
theorem dX9_sayPart_20 : decode cX9_sayPart 20 = .ok (.invokevirtual 111, 3) := by decide +kernel
theorem dX9_sayPart_23 : decode cX9_sayPart 23 = .ok (.iload_n 3, 1) := by decide +kernel
theorem dX9_sayPart_24 : decode cX9_sayPart 24 = .ok (.iadd, 1) := by decide +kernel
theorem dX9_sayPart_25 : decode cX9_sayPart 25 = .ok (.baload, 1) := by decide +kernel
theorem dX9_sayPart_26 : decode cX9_sayPart 26 = .ok (.invokevirtual 287, 3) := by decide +kernel
theorem dX9_sayPart_29 : decode cX9_sayPart 29 = .ok (.iinc 3 1, 3) := by decide +kernel
theorem dX9_sayPart_32 : decode cX9_sayPart 32 = .ok (.goto (-30), 3) := by decide +kernel
theorem dX9_sayPart_35 : decode cX9_sayPart 35 = .ok (.return_, 1) := by decide +kernel
theorem dX9_sayWritten_0 : decode cX9_sayWritten 0 = .ok (.iconst 0, 1) := by decide +kernel
theorem dX9_sayWritten_1 : decode cX9_sayWritten 1 = .ok (.istore_n 1, 1) := by decide +kernel
theorem dX9_sayWritten_2 : decode cX9_sayWritten 2 = .ok (.iload_n 1, 1) := by decide +kernel
theorem dX9_sayWritten_3 : decode cX9_sayWritten 3 = .ok (.aload_n 0, 1) := by decide +kernel
theorem dX9_sayWritten_4 : decode cX9_sayWritten 4 = .ok (.getfield 266, 3) := by decide +kernel
theorem dX9_sayWritten_7 : decode cX9_sayWritten 7 = .ok (.if_icmp .ge 19, 3) := by decide +kernel
theorem dX9_sayWritten_10 : decode cX9_sayWritten 10 = .ok (.aload_n 0, 1) := by decide +kernel
theorem dX9_sayWritten_11 : decode cX9_sayWritten 11 = .ok (.aload_n 0, 1) := by decide +kernel
theorem dX9_sayWritten_12 : decode cX9_sayWritten 12 = .ok (.getfield 52, 3) := by decide +kernel
theorem dX9_sayWritten_15 : decode cX9_sayWritten 15 = .ok (.iload_n 1, 1) := by decide +kernel
theorem dX9_sayWritten_16 : decode cX9_sayWritten 16 = .ok (.baload, 1) := by decide +kernel
theorem dX9_sayWritten_17 : decode cX9_sayWritten 17 = .ok (.invokevirtual 287, 3) := by decide +kernel
theorem dX9_sayWritten_20 : decode cX9_sayWritten 20 = .ok (.iinc 1 1, 3) := by decide +kernel
theorem dX9_sayWritten_23 : decode cX9_sayWritten 23 = .ok (.goto (-21), 3) := by decide +kernel
theorem dX9_sayWritten_26 : decode cX9_sayWritten 26 = .ok (.return_, 1) := by decide +kernel
theorem dX9_write_0 : decode cX9_write 0 = .ok (.aload_n 0, 1) := by decide +kernel
theorem dX9_write_1 : decode cX9_write 1 = .ok (.iload_n 1, 1) := by decide +kernel
theorem dX9_write_2 : decode cX9_write 2 = .ok (.invokevirtual 157, 3) := by decide +kernel
theorem dX9_write_5 : decode cX9_write 5 = .ok (.ifCond .ne 6, 3) := by decide +kernel
theorem dX9_write_8 : decode cX9_write 8 = .ok (.bipush (-2), 2) := by decide +kernel
theorem dX9_write_10 : decode cX9_write 10 = .ok (.ireturn, 1) := by decide +kernel
theorem dX9_write_11 : decode cX9_write 11 = .ok (.aload_n 0, 1) := by decide +kernel
theorem dX9_write_12 : decode cX9_write 12 = .ok (.iload_n 1, 1) := by decide +kernel
theorem dX9_write_13 : decode cX9_write 13 = .ok (.invokevirtual 170, 3) := by decide +kernel
theorem dX9_write_16 : decode cX9_write 16 = .ok (.sipush 300, 3) := by decide +kernel
theorem dX9_write_19 : decode cX9_write 19 = .ok (.if_icmp .le 6, 3) := by decide +kernel
theorem dX9_write_22 : decode cX9_write 22 = .ok (.bipush (-3), 2) := by decide +kernel
theorem dX9_write_24 : decode cX9_write 24 = .ok (.ireturn, 1) := by decide +kernel
theorem dX9_write_25 : decode cX9_write 25 = .ok (.aload_n 0, 1) := by decide +kernel
theorem dX9_write_26 : decode cX9_write 26 = .ok (.iconst 0, 1) := by decide +kernel
theorem dX9_write_27 : decode cX9_write 27 = .ok (.putfield 103, 3) := by decide +kernel
theorem dX9_write_30 : decode cX9_write 30 = .ok (.iconst 0, 1) := by decide +kernel
theorem dX9_write_31 : decode cX9_write 31 = .ok (.istore_n 2, 1) := by decide +kernel
theorem dX9_write_32 : decode cX9_write 32 = .ok (.iload_n 2, 1) := by decide +kernel
theorem dX9_write_33 : decode cX9_write 33 = .ok (.aload_n 0, 1) := by decide +kernel
theorem dX9_write_34 : decode cX9_write 34 = .ok (.getfield 17, 3) := by decide +kernel
theorem dX9_write_37 : decode cX9_write 37 = .ok (.iload_n 1, 1) := by decide +kernel
theorem dX9_write_38 : decode cX9_write 38 = .ok (.iaload, 1) := by decide +kernel
theorem dX9_write_39 : decode cX9_write 39 = .ok (.invokestatic 148, 3) := by decide +kernel
theorem dX9_write_42 : decode cX9_write 42 = .ok (.if_icmp .ge 23, 3) := by decide +kernel
theorem dX9_write_45 : decode cX9_write 45 = .ok (.aload_n 0, 1) := by decide +kernel
theorem dX9_write_46 : decode cX9_write 46 = .ok (.aload_n 0, 1) := by decide +kernel
theorem dX9_write_47 : decode cX9_write 47 = .ok (.getfield 17, 3) := by decide +kernel
theorem dX9_write_50 : decode cX9_write 50 = .ok (.iload_n 1, 1) := by decide +kernel
theorem dX9_write_51 : decode cX9_write 51 = .ok (.iaload, 1) := by decide +kernel
theorem dX9_write_52 : decode cX9_write 52 = .ok (.iload_n 2, 1) := by decide +kernel
theorem dX9_write_53 : decode cX9_write 53 = .ok (.invokestatic 154, 3) := by decide +kernel
theorem dX9_write_56 : decode cX9_write 56 = .ok (.invokevirtual 287, 3) := by decide +kernel
theorem dX9_write_59 : decode cX9_write 59 = .ok (.iinc 2 1, 3) := by decide +kernel
theorem dX9_write_62 : decode cX9_write 62 = .ok (.goto (-30), 3) := by decide +kernel
theorem dX9_write_65 : decode cX9_write 65 = .ok (.aload_n 0, 1) := by decide +kernel
theorem dX9_write_66 : decode cX9_write 66 = .ok (.bipush 58, 2) := by decide +kernel
theorem dX9_write_68 : decode cX9_write 68 = .ok (.invokevirtual 287, 3) := by decide +kernel
theorem dX9_write_71 : decode cX9_write 71 = .ok (.aload_n 0, 1) := by decide +kernel
theorem dX9_write_72 : decode cX9_write 72 = .ok (.bipush 47, 2) := by decide +kernel
theorem dX9_write_74 : decode cX9_write 74 = .ok (.invokevirtual 287, 3) := by decide +kernel
theorem dX9_write_77 : decode cX9_write 77 = .ok (.aload_n 0, 1) := by decide +kernel
theorem dX9_write_78 : decode cX9_write 78 = .ok (.bipush 47, 2) := by decide +kernel
theorem dX9_write_80 : decode cX9_write 80 = .ok (.invokevirtual 287, 3) := by decide +kernel
theorem dX9_write_83 : decode cX9_write 83 = .ok (.aload_n 0, 1) := by decide +kernel
theorem dX9_write_84 : decode cX9_write 84 = .ok (.iload_n 1, 1) := by decide +kernel
theorem dX9_write_85 : decode cX9_write 85 = .ok (.iconst 0, 1) := by decide +kernel
theorem dX9_write_86 : decode cX9_write 86 = .ok (.invokevirtual 107, 3) := by decide +kernel
theorem dX9_write_89 : decode cX9_write 89 = .ok (.ifCond .gt 12, 3) := by decide +kernel
theorem dX9_write_92 : decode cX9_write 92 = .ok (.aload_n 0, 1) := by decide +kernel
theorem dX9_write_93 : decode cX9_write 93 = .ok (.iload_n 1, 1) := by decide +kernel
theorem dX9_write_94 : decode cX9_write 94 = .ok (.iconst 1, 1) := by decide +kernel
theorem dX9_write_95 : decode cX9_write 95 = .ok (.invokevirtual 107, 3) := by decide +kernel
theorem dX9_write_98 : decode cX9_write 98 = .ok (.ifCond .le 36, 3) := by decide +kernel
theorem dX9_write_101 : decode cX9_write 101 = .ok (.aload_n 0, 1) := by decide +kernel
theorem dX9_write_102 : decode cX9_write 102 = .ok (.iload_n 1, 1) := by decide +kernel
theorem dX9_write_103 : decode cX9_write 103 = .ok (.iconst 0, 1) := by decide +kernel
theorem dX9_write_104 : decode cX9_write 104 = .ok (.invokevirtual 290, 3) := by decide +kernel
theorem dX9_write_107 : decode cX9_write 107 = .ok (.aload_n 0, 1) := by decide +kernel
theorem dX9_write_108 : decode cX9_write 108 = .ok (.iload_n 1, 1) := by decide +kernel
theorem dX9_write_109 : decode cX9_write 109 = .ok (.iconst 1, 1) := by decide +kernel
theorem dX9_write_110 : decode cX9_write 110 = .ok (.invokevirtual 107, 3) := by decide +kernel
theorem dX9_write_113 : decode cX9_write 113 = .ok (.ifCond .le 15, 3) := by decide +kernel
theorem dX9_write_116 : decode cX9_write 116 = .ok (.aload_n 0, 1) := by decide +kernel
theorem dX9_write_117 : decode cX9_write 117 = .ok (.bipush 58, 2) := by decide +kernel
theorem dX9_write_119 : decode cX9_write 119 = .ok (.invokevirtual 287, 3) := by decide +kernel
theorem dX9_write_122 : decode cX9_write 122 = .ok (.aload_n 0, 1) := by decide +kernel
theorem dX9_write_123 : decode cX9_write 123 = .ok (.iload_n 1, 1) := by decide +kernel
theorem dX9_write_124 : decode cX9_write 124 = .ok (.iconst 1, 1) := by decide +kernel
theorem dX9_write_125 : decode cX9_write 125 = .ok (.invokevirtual 290, 3) := by decide +kernel
theorem dX9_write_128 : decode cX9_write 128 = .ok (.aload_n 0, 1) := by decide +kernel
theorem dX9_write_129 : decode cX9_write 129 = .ok (.bipush 64, 2) := by decide +kernel
theorem dX9_write_131 : decode cX9_write 131 = .ok (.invokevirtual 287, 3) := by decide +kernel
theorem dX9_write_134 : decode cX9_write 134 = .ok (.aload_n 0, 1) := by decide +kernel
theorem dX9_write_135 : decode cX9_write 135 = .ok (.iload_n 1, 1) := by decide +kernel
theorem dX9_write_136 : decode cX9_write 136 = .ok (.invokevirtual 281, 3) := by decide +kernel
theorem dX9_write_139 : decode cX9_write 139 = .ok (.aload_n 0, 1) := by decide +kernel
theorem dX9_write_140 : decode cX9_write 140 = .ok (.invokevirtual 293, 3) := by decide +kernel
theorem dX9_write_143 : decode cX9_write 143 = .ok (.aload_n 0, 1) := by decide +kernel
theorem dX9_write_144 : decode cX9_write 144 = .ok (.getfield 21, 3) := by decide +kernel
theorem dX9_write_147 : decode cX9_write 147 = .ok (.iload_n 1, 1) := by decide +kernel
theorem dX9_write_148 : decode cX9_write 148 = .ok (.iaload, 1) := by decide +kernel
theorem dX9_write_149 : decode cX9_write 149 = .ok (.ifCond .lt 28, 3) := by decide +kernel
theorem dX9_write_152 : decode cX9_write 152 = .ok (.aload_n 0, 1) := by decide +kernel
theorem dX9_write_153 : decode cX9_write 153 = .ok (.bipush 58, 2) := by decide +kernel
theorem dX9_write_155 : decode cX9_write 155 = .ok (.invokevirtual 287, 3) := by decide +kernel
theorem dX9_write_158 : decode cX9_write 158 = .ok (.aload_n 0, 1) := by decide +kernel
theorem dX9_write_159 : decode cX9_write 159 = .ok (.iconst 0, 1) := by decide +kernel
theorem dX9_write_160 : decode cX9_write 160 = .ok (.putfield 266, 3) := by decide +kernel
theorem dX9_write_163 : decode cX9_write 163 = .ok (.aload_n 0, 1) := by decide +kernel
theorem dX9_write_164 : decode cX9_write 164 = .ok (.aload_n 0, 1) := by decide +kernel
theorem dX9_write_165 : decode cX9_write 165 = .ok (.getfield 21, 3) := by decide +kernel
theorem dX9_write_168 : decode cX9_write 168 = .ok (.iload_n 1, 1) := by decide +kernel
theorem dX9_write_169 : decode cX9_write 169 = .ok (.iaload, 1) := by decide +kernel
theorem dX9_write_170 : decode cX9_write 170 = .ok (.invokevirtual 272, 3) := by decide +kernel
theorem dX9_write_173 : decode cX9_write 173 = .ok (.aload_n 0, 1) := by decide +kernel
theorem dX9_write_174 : decode cX9_write 174 = .ok (.invokevirtual 293, 3) := by decide +kernel
theorem dX9_write_177 : decode cX9_write 177 = .ok (.aload_n 0, 1) := by decide +kernel
theorem dX9_write_178 : decode cX9_write 178 = .ok (.iload_n 1, 1) := by decide +kernel
theorem dX9_write_179 : decode cX9_write 179 = .ok (.iconst 3, 1) := by decide +kernel
theorem dX9_write_180 : decode cX9_write 180 = .ok (.invokevirtual 290, 3) := by decide +kernel
theorem dX9_write_183 : decode cX9_write 183 = .ok (.aload_n 0, 1) := by decide +kernel
theorem dX9_write_184 : decode cX9_write 184 = .ok (.getfield 30, 3) := by decide +kernel
theorem dX9_write_187 : decode cX9_write 187 = .ok (.iload_n 1, 1) := by decide +kernel
theorem dX9_write_188 : decode cX9_write 188 = .ok (.baload, 1) := by decide +kernel
theorem dX9_write_189 : decode cX9_write 189 = .ok (.ifCond .eq 15, 3) := by decide +kernel
theorem dX9_write_192 : decode cX9_write 192 = .ok (.aload_n 0, 1) := by decide +kernel
theorem dX9_write_193 : decode cX9_write 193 = .ok (.bipush 63, 2) := by decide +kernel
theorem dX9_write_195 : decode cX9_write 195 = .ok (.invokevirtual 287, 3) := by decide +kernel
theorem dX9_write_198 : decode cX9_write 198 = .ok (.aload_n 0, 1) := by decide +kernel
theorem dX9_write_199 : decode cX9_write 199 = .ok (.iload_n 1, 1) := by decide +kernel
theorem dX9_write_200 : decode cX9_write 200 = .ok (.iconst 4, 1) := by decide +kernel
theorem dX9_write_201 : decode cX9_write 201 = .ok (.invokevirtual 290, 3) := by decide +kernel
theorem dX9_write_204 : decode cX9_write 204 = .ok (.aload_n 0, 1) := by decide +kernel
theorem dX9_write_205 : decode cX9_write 205 = .ok (.getfield 33, 3) := by decide +kernel
theorem dX9_write_208 : decode cX9_write 208 = .ok (.iload_n 1, 1) := by decide +kernel
theorem dX9_write_209 : decode cX9_write 209 = .ok (.baload, 1) := by decide +kernel
theorem dX9_write_210 : decode cX9_write 210 = .ok (.ifCond .eq 15, 3) := by decide +kernel
theorem dX9_write_213 : decode cX9_write 213 = .ok (.aload_n 0, 1) := by decide +kernel
theorem dX9_write_214 : decode cX9_write 214 = .ok (.bipush 35, 2) := by decide +kernel
theorem dX9_write_216 : decode cX9_write 216 = .ok (.invokevirtual 287, 3) := by decide +kernel
theorem dX9_write_219 : decode cX9_write 219 = .ok (.aload_n 0, 1) := by decide +kernel
theorem dX9_write_220 : decode cX9_write 220 = .ok (.iload_n 1, 1) := by decide +kernel
theorem dX9_write_221 : decode cX9_write 221 = .ok (.iconst 5, 1) := by decide +kernel
theorem dX9_write_222 : decode cX9_write 222 = .ok (.invokevirtual 290, 3) := by decide +kernel
theorem dX9_write_225 : decode cX9_write 225 = .ok (.aload_n 0, 1) := by decide +kernel
theorem dX9_write_226 : decode cX9_write 226 = .ok (.getfield 103, 3) := by decide +kernel
theorem dX9_write_229 : decode cX9_write 229 = .ok (.ireturn, 1) := by decide +kernel
theorem dX9_size_0 : decode cX9_size 0 = .ok (.aload_n 0, 1) := by decide +kernel
theorem dX9_size_1 : decode cX9_size 1 = .ok (.iload_n 1, 1) := by decide +kernel
theorem dX9_size_2 : decode cX9_size 2 = .ok (.invokevirtual 157, 3) := by decide +kernel
theorem dX9_size_5 : decode cX9_size 5 = .ok (.ifCond .eq 13, 3) := by decide +kernel
theorem dX9_size_8 : decode cX9_size 8 = .ok (.iload_n 2, 1) := by decide +kernel
theorem dX9_size_9 : decode cX9_size 9 = .ok (.iconst 0, 1) := by decide +kernel
theorem dX9_size_10 : decode cX9_size 10 = .ok (.bipush 6, 2) := by decide +kernel
theorem dX9_size_12 : decode cX9_size 12 = .ok (.invokestatic 91, 3) := by decide +kernel
theorem dX9_size_15 : decode cX9_size 15 = .ok (.ifCond .ne 6, 3) := by decide +kernel
theorem dX9_size_18 : decode cX9_size 18 = .ok (.bipush (-2), 2) := by decide +kernel
theorem dX9_size_20 : decode cX9_size 20 = .ok (.ireturn, 1) := by decide +kernel
theorem dX9_size_21 : decode cX9_size 21 = .ok (.iload_n 2, 1) := by decide +kernel
theorem dX9_size_22 : decode cX9_size 22 = .ok (.tableswitch 99 0 5 #[38, 48, 55, 62, 72, 79], 38) := by decide +kernel
theorem dX9_size_60 : decode cX9_size 60 = .ok (.aload_n 0, 1) := by decide +kernel
theorem dX9_size_61 : decode cX9_size 61 = .ok (.getfield 17, 3) := by decide +kernel
theorem dX9_size_64 : decode cX9_size 64 = .ok (.iload_n 1, 1) := by decide +kernel
theorem dX9_size_65 : decode cX9_size 65 = .ok (.iaload, 1) := by decide +kernel
theorem dX9_size_66 : decode cX9_size 66 = .ok (.invokestatic 148, 3) := by decide +kernel
theorem dX9_size_69 : decode cX9_size 69 = .ok (.ireturn, 1) := by decide +kernel
theorem dX9_size_70 : decode cX9_size 70 = .ok (.aload_n 0, 1) := by decide +kernel
theorem dX9_size_71 : decode cX9_size 71 = .ok (.iload_n 1, 1) := by decide +kernel
theorem dX9_size_72 : decode cX9_size 72 = .ok (.iconst 0, 1) := by decide +kernel
theorem dX9_size_73 : decode cX9_size 73 = .ok (.invokevirtual 107, 3) := by decide +kernel
theorem dX9_size_76 : decode cX9_size 76 = .ok (.ireturn, 1) := by decide +kernel
theorem dX9_size_77 : decode cX9_size 77 = .ok (.aload_n 0, 1) := by decide +kernel
theorem dX9_size_78 : decode cX9_size 78 = .ok (.iload_n 1, 1) := by decide +kernel
theorem dX9_size_79 : decode cX9_size 79 = .ok (.iconst 1, 1) := by decide +kernel
theorem dX9_size_80 : decode cX9_size 80 = .ok (.invokevirtual 107, 3) := by decide +kernel
theorem dX9_size_83 : decode cX9_size 83 = .ok (.ireturn, 1) := by decide +kernel
theorem dX9_size_84 : decode cX9_size 84 = .ok (.aload_n 0, 1) := by decide +kernel
theorem dX9_size_85 : decode cX9_size 85 = .ok (.iload_n 1, 1) := by decide +kernel
theorem dX9_size_86 : decode cX9_size 86 = .ok (.invokevirtual 281, 3) := by decide +kernel
theorem dX9_size_89 : decode cX9_size 89 = .ok (.aload_n 0, 1) := by decide +kernel
theorem dX9_size_90 : decode cX9_size 90 = .ok (.getfield 266, 3) := by decide +kernel
theorem dX9_size_93 : decode cX9_size 93 = .ok (.ireturn, 1) := by decide +kernel
theorem dX9_size_94 : decode cX9_size 94 = .ok (.aload_n 0, 1) := by decide +kernel
theorem dX9_size_95 : decode cX9_size 95 = .ok (.iload_n 1, 1) := by decide +kernel
theorem dX9_size_96 : decode cX9_size 96 = .ok (.iconst 3, 1) := by decide +kernel
theorem dX9_size_97 : decode cX9_size 97 = .ok (.invokevirtual 107, 3) := by decide +kernel
theorem dX9_size_100 : decode cX9_size 100 = .ok (.ireturn, 1) := by decide +kernel
theorem dX9_size_101 : decode cX9_size 101 = .ok (.aload_n 0, 1) := by decide +kernel
theorem dX9_size_102 : decode cX9_size 102 = .ok (.getfield 30, 3) := by decide +kernel
theorem dX9_size_105 : decode cX9_size 105 = .ok (.iload_n 1, 1) := by decide +kernel
theorem dX9_size_106 : decode cX9_size 106 = .ok (.baload, 1) := by decide +kernel
theorem dX9_size_107 : decode cX9_size 107 = .ok (.ifCond .eq 12, 3) := by decide +kernel
theorem dX9_size_110 : decode cX9_size 110 = .ok (.aload_n 0, 1) := by decide +kernel
theorem dX9_size_111 : decode cX9_size 111 = .ok (.iload_n 1, 1) := by decide +kernel
theorem dX9_size_112 : decode cX9_size 112 = .ok (.iconst 4, 1) := by decide +kernel
theorem dX9_size_113 : decode cX9_size 113 = .ok (.invokevirtual 107, 3) := by decide +kernel
theorem dX9_size_116 : decode cX9_size 116 = .ok (.goto 4, 3) := by decide +kernel
theorem dX9_size_119 : decode cX9_size 119 = .ok (.iconst (-1), 1) := by decide +kernel
theorem dX9_size_120 : decode cX9_size 120 = .ok (.ireturn, 1) := by decide +kernel
theorem dX9_size_121 : decode cX9_size 121 = .ok (.aload_n 0, 1) := by decide +kernel
theorem dX9_size_122 : decode cX9_size 122 = .ok (.getfield 33, 3) := by decide +kernel
theorem dX9_size_125 : decode cX9_size 125 = .ok (.iload_n 1, 1) := by decide +kernel
theorem dX9_size_126 : decode cX9_size 126 = .ok (.baload, 1) := by decide +kernel
theorem dX9_size_127 : decode cX9_size 127 = .ok (.ifCond .eq 12, 3) := by decide +kernel
theorem dX9_size_130 : decode cX9_size 130 = .ok (.aload_n 0, 1) := by decide +kernel
theorem dX9_size_131 : decode cX9_size 131 = .ok (.iload_n 1, 1) := by decide +kernel
theorem dX9_size_132 : decode cX9_size 132 = .ok (.iconst 5, 1) := by decide +kernel
theorem dX9_size_133 : decode cX9_size 133 = .ok (.invokevirtual 107, 3) := by decide +kernel
theorem dX9_size_136 : decode cX9_size 136 = .ok (.goto 4, 3) := by decide +kernel
theorem dX9_size_139 : decode cX9_size 139 = .ok (.iconst (-1), 1) := by decide +kernel
theorem dX9_size_140 : decode cX9_size 140 = .ok (.ireturn, 1) := by decide +kernel
def f_X9_writtenLength_132  (x0 : Option Nat) (x1 : Int32) (s0 : Int32) (s1 : Int32) : gM Int32 := gb (rR 8 8 x0) fun v1 => gb (aI 2 v1 x1) fun v2 => if v2 = 0 then (gp ((s0 + s1) + 0)) else (gb (nn 8 x0) fun _ => gb (f_X9_sizeOf x0 x1 5) fun v3 => gp ((s0 + s1) + (1 + v3)))
def f_X9_writtenLength_106  (x0 : Option Nat) (x1 : Int32) (s0 : Int32) (s1 : Int32) : gM Int32 := gb (rR 8 7 x0) fun v1 => gb (aI 2 v1 x1) fun v2 => if v2 = 0 then (f_X9_writtenLength_132  x0 x1 (s0 + s1) 0) else (gb (nn 8 x0) fun _ => gb (f_X9_sizeOf x0 x1 4) fun v3 => f_X9_writtenLength_132  x0 x1 (s0 + s1) (1 + v3))
def f_X9_writtenLength_77  (x0 : Option Nat) (x1 : Int32) (s0 : Int32) (s1 : Int32) : gM Int32 := gb (rR 8 4 x0) fun v1 => gb (aI 1 v1 x1) fun v2 => if v2 < 0 then (f_X9_writtenLength_106  x0 x1 (s0 + s1) 0) else (gb (rR 8 4 x0) fun v3 => gb (aI 1 v3 x1) fun v4 => gb (f_X9_digitsOf v4) fun v5 => f_X9_writtenLength_106  x0 x1 (s0 + s1) (1 + v5))
def f_X9_writtenLength_61  (x0 : Option Nat) (x1 : Int32) (x3 : Int32) (s0 : Int32) (s1 : Int32) : gM Int32 := if x3 ≤ 0 then (f_X9_writtenLength_77  x0 x1 (s0 + s1) 0) else (f_X9_writtenLength_77  x0 x1 (s0 + s1) (x3 + 1))
def f_X9_writtenLength_54  (x0 : Option Nat) (x1 : Int32) (x2 : Int32) (x3 : Int32) (s0 : Int32) : gM Int32 := f_X9_writtenLength_61  x0 x1 x3 s0 (x2 + 1)
def f_X9_writtenLength  (a0 : Option Nat) (a1 : Int32) : gM Int32 := gb (nn 8 a0) fun _ => gb (f_X9_writeHost a0 a1) fun _ => gb (nn 8 a0) fun _ => gb (f_X9_sizeOf a0 a1 0) fun v1 => gb (nn 8 a0) fun _ => gb (f_X9_sizeOf a0 a1 1) fun v2 => gb (rR 8 3 a0) fun v3 => gb (aI 1 v3 a1) fun v4 => gb (f_X9_schemeSize v4) fun v5 => gb (rI 8 19 a0) fun v6 => gb (nn 8 a0) fun _ => gb (f_X9_sizeOf a0 a1 3) fun v7 => if 0 < v1 then (f_X9_writtenLength_54  a0 a1 v1 v2 (((v5 + 3) + v6) + v7)) else (if v2 ≤ 0 then (f_X9_writtenLength_61  a0 a1 v2 (((v5 + 3) + v6) + v7) 0) else (f_X9_writtenLength_54  a0 a1 v1 v2 (((v5 + 3) + v6) + v7)))
section S_X9_writtenLength
variable {G : gX} {p : Program} {l : Launch} {e : Env} {s : State} {m : MethodId} {args : Array Value} {below : List Frame} {meth : Method} {c : Code} {mc ms : Nat} {y : Int32 × gS}
set_option maxHeartbeats 4000000 in
set_option maxRecDepth 100000 in
theorem w_X9_writtenLength_132 (C : gC G p s m args meth c cX9_writtenLength 5 RX9) (hr : meth.sig.returnType = (some .int))  (x0 : Option Nat) (x1 : Int32) (s0 : Int32) (s1 : Int32) : gJ G p l e 4 92 mc ms s m args below meth c gri y 5 132 [(0, va_rf x0), (1, .int x1)] [.int s1, .int s0] (f_X9_writtenLength_132  x0 x1 s0 s1) := by
  have hx := C.1
  have hb := C.2.1
  intro σ H locs cells slots ls hf I hl
  unfold f_X9_writtenLength_132 at hf
  refine lv_iadd hx hb dX9_writtenLength_132 ?_
  refine lv_istore (lv' := [(4, .int (s0 + s1)), (0, va_rf x0), (1, .int x1)]) hx hb dX9_writtenLength_133 hl (by decide) rfl (fun ls hl => ?_)
  refine lv_iload hx hb dX9_writtenLength_135 (lv_at hl 0 rfl) ?_
  refine gw_aload_n hx hb dX9_writtenLength_137 rfl (lv_at hl 1 rfl) ?_
  refine gw_getr (k := 8) C I gcls_8 (by decide) rfl kw_172 dX9_writtenLength_138 hf (fun v1 hf => ?_)
  refine lv_iload_n hx hb dX9_writtenLength_141 rfl (lv_at hl 2 rfl) ?_
  refine gw_zald C I dX9_writtenLength_142 hf (fun v2 hf => ?_)
  refine lv_if_eq (tgt := 157) hx hb dX9_writtenLength_143 (by decide) (fun hq => ?_) (fun hq => ?_)
  · have hf := gift hq hf
    refine lv_iconst (v := 0) hx hb dX9_writtenLength_157 kc_i_0 ?_
    refine lv_iadd hx hb dX9_writtenLength_158 ?_
    exact gw_iret C I hr dX9_writtenLength_159 hf
  · have hf := giff hq hf
    refine lv_iconst (v := 1) hx hb dX9_writtenLength_146 kc_i_1 ?_
    refine gw_aload_n hx hb dX9_writtenLength_147 rfl (lv_at hl 1 rfl) ?_
    refine lv_iload_n hx hb dX9_writtenLength_148 rfl (lv_at hl 2 rfl) ?_
    refine lv_iconst (v := 5) hx hb dX9_writtenLength_149 kc_i_5 ?_
    refine gw_callV (rest := [.int 1, .int (s0 + s1)]) C I hl.1 gcls_8 (m_X9_sizeOf G l x0 x1 5) gl_RX9_107 gn_X9_sizeOf ⟨Nat.le_of_ble_eq_true rfl, Nat.le_of_ble_eq_true rfl⟩ rfl (gc4 (Nat.le_of_ble_eq_true rfl)) rfl dX9_writtenLength_150 hf (fun v3 σ H locs cells slots I hf => ?_)
    refine W.eq (g2 := F0 m 153 ls [.int v3, .int 1, .int (s0 + s1)]) rfl ?_
    refine lv_iadd hx hb dX9_writtenLength_153 ?_
    refine lv_goto (tgt := 158) hx hb dX9_writtenLength_154 (by decide) ?_
    refine lv_iadd hx hb dX9_writtenLength_158 ?_
    exact gw_iret C I hr dX9_writtenLength_159 hf
set_option maxHeartbeats 4000000 in
set_option maxRecDepth 100000 in
theorem w_X9_writtenLength_106 (C : gC G p s m args meth c cX9_writtenLength 5 RX9) (hr : meth.sig.returnType = (some .int))  (x0 : Option Nat) (x1 : Int32) (s0 : Int32) (s1 : Int32) : gJ G p l e 4 92 mc ms s m args below meth c gri y 5 106 [(0, va_rf x0), (1, .int x1)] [.int s1, .int s0] (f_X9_writtenLength_106  x0 x1 s0 s1) := by
  have hx := C.1
  have hb := C.2.1
  intro σ H locs cells slots ls hf I hl
  unfold f_X9_writtenLength_106 at hf
  refine lv_iadd hx hb dX9_writtenLength_106 ?_
  refine lv_istore (lv' := [(4, .int (s0 + s1)), (0, va_rf x0), (1, .int x1)]) hx hb dX9_writtenLength_107 hl (by decide) rfl (fun ls hl => ?_)
  refine lv_iload hx hb dX9_writtenLength_109 (lv_at hl 0 rfl) ?_
  refine gw_aload_n hx hb dX9_writtenLength_111 rfl (lv_at hl 1 rfl) ?_
  refine gw_getr (k := 7) C I gcls_8 (by decide) rfl kw_171 dX9_writtenLength_112 hf (fun v1 hf => ?_)
  refine lv_iload_n hx hb dX9_writtenLength_115 rfl (lv_at hl 2 rfl) ?_
  refine gw_zald C I dX9_writtenLength_116 hf (fun v2 hf => ?_)
  refine lv_if_eq (tgt := 131) hx hb dX9_writtenLength_117 (by decide) (fun hq => ?_) (fun hq => ?_)
  · have hf := gift hq hf
    refine lv_iconst (v := 0) hx hb dX9_writtenLength_131 kc_i_0 ?_
    exact w_X9_writtenLength_132 C hr  x0 x1 (s0 + s1) 0 _ _ _ _ _ _ hf I (lv_sub hl [1, 2] rfl)
  · have hf := giff hq hf
    refine lv_iconst (v := 1) hx hb dX9_writtenLength_120 kc_i_1 ?_
    refine gw_aload_n hx hb dX9_writtenLength_121 rfl (lv_at hl 1 rfl) ?_
    refine lv_iload_n hx hb dX9_writtenLength_122 rfl (lv_at hl 2 rfl) ?_
    refine lv_iconst (v := 4) hx hb dX9_writtenLength_123 kc_i_4 ?_
    refine gw_callV (rest := [.int 1, .int (s0 + s1)]) C I hl.1 gcls_8 (m_X9_sizeOf G l x0 x1 4) gl_RX9_107 gn_X9_sizeOf ⟨Nat.le_of_ble_eq_true rfl, Nat.le_of_ble_eq_true rfl⟩ rfl (gc4 (Nat.le_of_ble_eq_true rfl)) rfl dX9_writtenLength_124 hf (fun v3 σ H locs cells slots I hf => ?_)
    refine W.eq (g2 := F0 m 127 ls [.int v3, .int 1, .int (s0 + s1)]) rfl ?_
    refine lv_iadd hx hb dX9_writtenLength_127 ?_
    refine lv_goto (tgt := 132) hx hb dX9_writtenLength_128 (by decide) ?_
    exact w_X9_writtenLength_132 C hr  x0 x1 (s0 + s1) (1 + v3) _ _ _ _ _ _ hf I (lv_sub hl [1, 2] rfl)
set_option maxHeartbeats 4000000 in
set_option maxRecDepth 100000 in
theorem w_X9_writtenLength_77 (C : gC G p s m args meth c cX9_writtenLength 5 RX9) (hr : meth.sig.returnType = (some .int))  (x0 : Option Nat) (x1 : Int32) (s0 : Int32) (s1 : Int32) : gJ G p l e 4 92 mc ms s m args below meth c gri y 5 77 [(0, va_rf x0), (1, .int x1)] [.int s1, .int s0] (f_X9_writtenLength_77  x0 x1 s0 s1) := by
  have hx := C.1
  have hb := C.2.1
  intro σ H locs cells slots ls hf I hl
  unfold f_X9_writtenLength_77 at hf
  refine lv_iadd hx hb dX9_writtenLength_77 ?_
  refine lv_istore (lv' := [(4, .int (s0 + s1)), (0, va_rf x0), (1, .int x1)]) hx hb dX9_writtenLength_78 hl (by decide) rfl (fun ls hl => ?_)
  refine lv_iload hx hb dX9_writtenLength_80 (lv_at hl 0 rfl) ?_
  refine gw_aload_n hx hb dX9_writtenLength_82 rfl (lv_at hl 1 rfl) ?_
  refine gw_getr (k := 4) C I gcls_8 (by decide) rfl kw_168 dX9_writtenLength_83 hf (fun v1 hf => ?_)
  refine lv_iload_n hx hb dX9_writtenLength_86 rfl (lv_at hl 2 rfl) ?_
  refine gw_iald C I dX9_writtenLength_87 hf (fun v2 hf => ?_)
  refine lv_if_lt (tgt := 105) hx hb dX9_writtenLength_88 (by decide) (fun hq => ?_) (fun hq => ?_)
  · have hf := gift hq hf
    refine lv_iconst (v := 0) hx hb dX9_writtenLength_105 kc_i_0 ?_
    exact w_X9_writtenLength_106 C hr  x0 x1 (s0 + s1) 0 _ _ _ _ _ _ hf I (lv_sub hl [1, 2] rfl)
  · have hf := giff hq hf
    refine lv_iconst (v := 1) hx hb dX9_writtenLength_91 kc_i_1 ?_
    refine gw_aload_n hx hb dX9_writtenLength_92 rfl (lv_at hl 1 rfl) ?_
    refine gw_getr (k := 4) C I gcls_8 (by decide) rfl kw_168 dX9_writtenLength_93 hf (fun v3 hf => ?_)
    refine lv_iload_n hx hb dX9_writtenLength_96 rfl (lv_at hl 2 rfl) ?_
    refine gw_iald C I dX9_writtenLength_97 hf (fun v4 hf => ?_)
    refine gw_callS (rest := [.int 1, .int (s0 + s1)]) C I hl.1 (m_X9_digitsOf G l v4) gl_RX9_284 kw_219 ⟨Nat.le_of_ble_eq_true rfl, Nat.le_of_ble_eq_true rfl⟩ rfl (gc4 (Nat.le_of_ble_eq_true rfl)) rfl dX9_writtenLength_98 hf (fun v5 σ H locs cells slots I hf => ?_)
    refine W.eq (g2 := F0 m 101 ls [.int v5, .int 1, .int (s0 + s1)]) rfl ?_
    refine lv_iadd hx hb dX9_writtenLength_101 ?_
    refine lv_goto (tgt := 106) hx hb dX9_writtenLength_102 (by decide) ?_
    exact w_X9_writtenLength_106 C hr  x0 x1 (s0 + s1) (1 + v5) _ _ _ _ _ _ hf I (lv_sub hl [1, 2] rfl)
set_option maxHeartbeats 4000000 in
set_option maxRecDepth 100000 in
theorem w_X9_writtenLength_61 (C : gC G p s m args meth c cX9_writtenLength 5 RX9) (hr : meth.sig.returnType = (some .int))  (x0 : Option Nat) (x1 : Int32) (x3 : Int32) (s0 : Int32) (s1 : Int32) : gJ G p l e 4 92 mc ms s m args below meth c gri y 5 61 [(0, va_rf x0), (1, .int x1), (3, .int x3)] [.int s1, .int s0] (f_X9_writtenLength_61  x0 x1 x3 s0 s1) := by
  have hx := C.1
  have hb := C.2.1
  intro σ H locs cells slots ls hf I hl
  unfold f_X9_writtenLength_61 at hf
  refine lv_iadd hx hb dX9_writtenLength_61 ?_
  refine lv_istore (lv' := [(4, .int (s0 + s1)), (0, va_rf x0), (1, .int x1), (3, .int x3)]) hx hb dX9_writtenLength_62 hl (by decide) rfl (fun ls hl => ?_)
  refine lv_iload hx hb dX9_writtenLength_64 (lv_at hl 0 rfl) ?_
  refine lv_iload_n hx hb dX9_writtenLength_66 rfl (lv_at hl 3 rfl) ?_
  refine lv_if_le (tgt := 76) hx hb dX9_writtenLength_67 (by decide) (fun hq => ?_) (fun hq => ?_)
  · have hf := gift hq hf
    refine lv_iconst (v := 0) hx hb dX9_writtenLength_76 kc_i_0 ?_
    exact w_X9_writtenLength_77 C hr  x0 x1 (s0 + s1) 0 _ _ _ _ _ _ hf I (lv_sub hl [1, 2] rfl)
  · have hf := giff hq hf
    refine lv_iload_n hx hb dX9_writtenLength_70 rfl (lv_at hl 3 rfl) ?_
    refine lv_iconst (v := 1) hx hb dX9_writtenLength_71 kc_i_1 ?_
    refine lv_iadd hx hb dX9_writtenLength_72 ?_
    refine lv_goto (tgt := 77) hx hb dX9_writtenLength_73 (by decide) ?_
    exact w_X9_writtenLength_77 C hr  x0 x1 (s0 + s1) (x3 + 1) _ _ _ _ _ _ hf I (lv_sub hl [1, 2] rfl)
set_option maxHeartbeats 4000000 in
set_option maxRecDepth 100000 in
theorem w_X9_writtenLength_54 (C : gC G p s m args meth c cX9_writtenLength 5 RX9) (hr : meth.sig.returnType = (some .int))  (x0 : Option Nat) (x1 : Int32) (x2 : Int32) (x3 : Int32) (s0 : Int32) : gJ G p l e 4 92 mc ms s m args below meth c gri y 5 54 [(0, va_rf x0), (1, .int x1), (2, .int x2), (3, .int x3)] [.int s0] (f_X9_writtenLength_54  x0 x1 x2 x3 s0) := by
  have hx := C.1
  have hb := C.2.1
  intro σ H locs cells slots ls hf I hl
  unfold f_X9_writtenLength_54 at hf
  refine lv_iload_n hx hb dX9_writtenLength_54 rfl (lv_at hl 2 rfl) ?_
  refine lv_iconst (v := 1) hx hb dX9_writtenLength_55 kc_i_1 ?_
  refine lv_iadd hx hb dX9_writtenLength_56 ?_
  refine lv_goto (tgt := 61) hx hb dX9_writtenLength_57 (by decide) ?_
  exact w_X9_writtenLength_61 C hr  x0 x1 x3 s0 (x2 + 1) _ _ _ _ _ _ hf I (lv_sub hl [0, 1, 3] rfl)
set_option maxHeartbeats 4000000 in
set_option maxRecDepth 100000 in
theorem w_X9_writtenLength_0 (C : gC G p s m args meth c cX9_writtenLength 5 RX9) (hr : meth.sig.returnType = (some .int))  (a0 : Option Nat) (a1 : Int32) : gJ G p l e 4 92 mc ms s m args below meth c gri y 5 0 [(0, va_rf a0), (1, .int a1)] [] (f_X9_writtenLength  a0 a1) := by
  have hx := C.1
  have hb := C.2.1
  intro σ H locs cells slots ls hf I hl
  unfold f_X9_writtenLength at hf
  refine gw_aload_n hx hb dX9_writtenLength_0 rfl (lv_at hl 0 rfl) ?_
  refine lv_iload_n hx hb dX9_writtenLength_1 rfl (lv_at hl 1 rfl) ?_
  refine gw_callV (rest := []) C I hl.1 gcls_8 (m_X9_writeHost G l a0 a1) gl_RX9_281 gn_X9_writeHost ⟨Nat.le_of_ble_eq_true rfl, Nat.le_of_ble_eq_true rfl⟩ rfl (gc4 (Nat.le_of_ble_eq_true rfl)) rfl dX9_writtenLength_2 hf (fun _ σ H locs cells slots I hf => ?_)
  refine W.eq (g2 := F0 m 5 ls []) rfl ?_
  refine gw_aload_n hx hb dX9_writtenLength_5 rfl (lv_at hl 0 rfl) ?_
  refine lv_iload_n hx hb dX9_writtenLength_6 rfl (lv_at hl 1 rfl) ?_
  refine lv_iconst (v := 0) hx hb dX9_writtenLength_7 kc_i_0 ?_
  refine gw_callV (rest := []) C I hl.1 gcls_8 (m_X9_sizeOf G l a0 a1 0) gl_RX9_107 gn_X9_sizeOf ⟨Nat.le_of_ble_eq_true rfl, Nat.le_of_ble_eq_true rfl⟩ rfl (gc4 (Nat.le_of_ble_eq_true rfl)) rfl dX9_writtenLength_8 hf (fun v1 σ H locs cells slots I hf => ?_)
  refine W.eq (g2 := F0 m 11 ls [.int v1]) rfl ?_
  refine lv_istore_n (lv' := [(2, .int v1), (0, va_rf a0), (1, .int a1)]) hx hb dX9_writtenLength_11 rfl hl (by decide) rfl (fun ls hl => ?_)
  refine gw_aload_n hx hb dX9_writtenLength_12 rfl (lv_at hl 1 rfl) ?_
  refine lv_iload_n hx hb dX9_writtenLength_13 rfl (lv_at hl 2 rfl) ?_
  refine lv_iconst (v := 1) hx hb dX9_writtenLength_14 kc_i_1 ?_
  refine gw_callV (rest := []) C I hl.1 gcls_8 (m_X9_sizeOf G l a0 a1 1) gl_RX9_107 gn_X9_sizeOf ⟨Nat.le_of_ble_eq_true rfl, Nat.le_of_ble_eq_true rfl⟩ rfl (gc4 (Nat.le_of_ble_eq_true rfl)) rfl dX9_writtenLength_15 hf (fun v2 σ H locs cells slots I hf => ?_)
  refine W.eq (g2 := F0 m 18 ls [.int v2]) rfl ?_
  refine lv_istore_n (lv' := [(3, .int v2), (2, .int v1), (0, va_rf a0), (1, .int a1)]) hx hb dX9_writtenLength_18 rfl hl (by decide) rfl (fun ls hl => ?_)
  refine gw_aload_n hx hb dX9_writtenLength_19 rfl (lv_at hl 2 rfl) ?_
  refine gw_getr (k := 3) C I gcls_8 (by decide) rfl kw_167 dX9_writtenLength_20 hf (fun v3 hf => ?_)
  refine lv_iload_n hx hb dX9_writtenLength_23 rfl (lv_at hl 3 rfl) ?_
  refine gw_iald C I dX9_writtenLength_24 hf (fun v4 hf => ?_)
  refine gw_callS (rest := []) C I hl.1 (m_X9_schemeSize G l v4) gl_RX9_148 kw_199 ⟨Nat.le_of_ble_eq_true rfl, Nat.le_of_ble_eq_true rfl⟩ rfl (gc4 (Nat.le_of_ble_eq_true rfl)) rfl dX9_writtenLength_25 hf (fun v5 σ H locs cells slots I hf => ?_)
  refine W.eq (g2 := F0 m 28 ls [.int v5]) rfl ?_
  refine lv_iconst (v := 3) hx hb dX9_writtenLength_28 kc_i_3 ?_
  refine lv_iadd hx hb dX9_writtenLength_29 ?_
  refine gw_aload_n hx hb dX9_writtenLength_30 rfl (lv_at hl 2 rfl) ?_
  refine gw_geti (k := 19) C I gcls_8 (by decide) rfl kw_218 dX9_writtenLength_31 hf (fun v6 hf => ?_)
  refine lv_iadd hx hb dX9_writtenLength_34 ?_
  refine gw_aload_n hx hb dX9_writtenLength_35 rfl (lv_at hl 2 rfl) ?_
  refine lv_iload_n hx hb dX9_writtenLength_36 rfl (lv_at hl 3 rfl) ?_
  refine lv_iconst (v := 3) hx hb dX9_writtenLength_37 kc_i_3 ?_
  refine gw_callV (rest := [.int ((v5 + 3) + v6)]) C I hl.1 gcls_8 (m_X9_sizeOf G l a0 a1 3) gl_RX9_107 gn_X9_sizeOf ⟨Nat.le_of_ble_eq_true rfl, Nat.le_of_ble_eq_true rfl⟩ rfl (gc4 (Nat.le_of_ble_eq_true rfl)) rfl dX9_writtenLength_38 hf (fun v7 σ H locs cells slots I hf => ?_)
  refine W.eq (g2 := F0 m 41 ls [.int v7, .int ((v5 + 3) + v6)]) rfl ?_
  refine lv_iadd hx hb dX9_writtenLength_41 ?_
  refine lv_istore (lv' := [(4, .int (((v5 + 3) + v6) + v7)), (3, .int v2), (2, .int v1), (0, va_rf a0), (1, .int a1)]) hx hb dX9_writtenLength_42 hl (by decide) rfl (fun ls hl => ?_)
  refine lv_iload hx hb dX9_writtenLength_44 (lv_at hl 0 rfl) ?_
  refine lv_iload_n hx hb dX9_writtenLength_46 rfl (lv_at hl 2 rfl) ?_
  refine lv_if_gt (tgt := 54) hx hb dX9_writtenLength_47 (by decide) (fun hq => ?_) (fun hq => ?_)
  · have hf := gift hq hf
    exact w_X9_writtenLength_54 C hr  a0 a1 v1 v2 (((v5 + 3) + v6) + v7) _ _ _ _ _ _ hf I (lv_sub hl [3, 4, 2, 1] rfl)
  · have hf := giff hq hf
    refine lv_iload_n hx hb dX9_writtenLength_50 rfl (lv_at hl 1 rfl) ?_
    refine lv_if_le (tgt := 60) hx hb dX9_writtenLength_51 (by decide) (fun hq => ?_) (fun hq => ?_)
    · have hf := gift hq hf
      refine lv_iconst (v := 0) hx hb dX9_writtenLength_60 kc_i_0 ?_
      exact w_X9_writtenLength_61 C hr  a0 a1 v2 (((v5 + 3) + v6) + v7) 0 _ _ _ _ _ _ hf I (lv_sub hl [3, 4, 1] rfl)
    · have hf := giff hq hf
      exact w_X9_writtenLength_54 C hr  a0 a1 v1 v2 (((v5 + 3) + v6) + v7) _ _ _ _ _ _ hf I (lv_sub hl [3, 4, 2, 1] rfl)
end S_X9_writtenLength
theorem m_X9_writtenLength (G : gX) (l : Launch) (a0 : Option Nat) (a1 : Int32) : gMet G l yX9_writtenLength cX9_writtenLength 5 (some .int) 4 92 [va_rf a0, .int a1] gri (f_X9_writtenLength a0 a1) := by
  refine gMet_of (by decide) ?_
  intro σ y p e s m below meth c mc ms hf C hr hnm I
  obtain ⟨ls, e1, hl⟩ := gentry m [va_rf a0, .int a1] 5 [(0, va_rf a0), (1, .int a1)] (by simp [lg_sl, grc, gcat_i, gcat_l]) (by simp [lv_args, grc, gcat_i, gcat_l])
  rw [e1]
  exact w_X9_writtenLength_0 C hr a0 a1 _ _ _ _ _ _ hf I hl
def f_X9_read_140 (rec140 : Option Nat → Int32 → Int32 → gM Int32) (x0 : Option Nat) (x1 : Int32) (x3 : Int32) : gM Int32 := if 6 ≤ x3 then (gb (rR 8 7 x0) fun v1 => gb (rR 8 7 x0) fun v2 => gb (aI 2 v2 4) fun v3 => gb (sI 2 v1 x1 v3) fun _ => gb (rR 8 8 x0) fun v4 => gb (rR 8 8 x0) fun v5 => gb (aI 2 v5 4) fun v6 => gb (sI 2 v4 x1 v6) fun _ => gp 0) else (gb (nn 8 x0) fun _ => gb (f_X9_copyPart x0 4 x1 x3) fun _ => rec140 x0 x1 (x3 + 1))
def f_X9_read_L140  : Nat → Option Nat → Int32 → Int32 → gM Int32
  | 0, _, _, _ => gno
  | n + 1, x0, x1, x3 => f_X9_read_140  (f_X9_read_L140  n) x0 x1 x3
def f_X9_read_113  (x0 : Option Nat) (x1 : Int32) : gM Int32 := gb (rI 8 13 x0) fun v1 => if v1 = 0 then (gb (rR 8 2 x0) fun v2 => gb (sI 2 v2 x1 1) fun _ => gb (nn 8 x0) fun _ => gb (f_X9_copyHost x0 4 x1) fun _ => f_X9_read_L140  gF x0 x1 3) else (gb (rI 8 13 x0) fun v3 => gp v3)
def f_X9_read_36 (rec36 : Option Nat → Int32 → Int32 → Int32 → gM Int32) (x0 : Option Nat) (x1 : Int32) (x2 : Int32) (x3 : Int32) : gM Int32 := if 6 ≤ x3 then (gb (rR 8 7 x0) fun v1 => gb (sI 2 v1 4 0) fun _ => gb (rR 8 8 x0) fun v2 => gb (sI 2 v2 4 0) fun _ => gb (rR 8 4 x0) fun v3 => gb (sI 1 v3 4 (-1)) fun _ => gb (wI 8 13 x0 0) fun _ => gb (nn 8 x0) fun _ => gb (f_X9_readScheme x0 x2) fun _ => gb (rI 8 13 x0) fun v4 => if v4 = 0 then (gb (nn 8 x0) fun _ => gb (f_X9_writtenLength x0 4) fun v5 => if v5 ≤ 1000 then (f_X9_read_113  x0 x1) else (gb (wI 8 13 x0 (-3)) fun _ => f_X9_read_113  x0 x1)) else (f_X9_read_113  x0 x1)) else (gb (rR 8 10 x0) fun v6 => gb (sI 1 v6 (24 + x3) 0) fun _ => rec36 x0 x1 x2 (x3 + 1))
def f_X9_read_L36  : Nat → Option Nat → Int32 → Int32 → Int32 → gM Int32
  | 0, _, _, _, _ => gno
  | n + 1, x0, x1, x2, x3 => f_X9_read_36  (f_X9_read_L36  n) x0 x1 x2 x3
def f_X9_read_25  (x0 : Option Nat) (x1 : Int32) (x2 : Int32) : gM Int32 := gb (nn 8 x0) fun _ => gb (f_X9_takeText x0) fun _ => gb (wI 8 1 x0 0) fun _ => f_X9_read_L36  gF x0 x1 x2 0
def f_X9_read  (a0 : Option Nat) (a1 : Int32) (a2 : Int32) : gM Int32 := gb (f_X9_isIn a1 0 3) fun v1 => if v1 = 0 then (gp (-2)) else (if a2 = (-1) then (f_X9_read_25  a0 a1 a2) else (gb (nn 8 a0) fun _ => gb (f_X9_has a0 a2) fun v2 => if v2 = 0 then (gp (-2)) else (f_X9_read_25  a0 a1 a2)))
section S_X9_read
variable {G : gX} {p : Program} {l : Launch} {e : Env} {s : State} {m : MethodId} {args : Array Value} {below : List Frame} {meth : Method} {c : Code} {mc ms : Nat} {y : Int32 × gS}
set_option maxHeartbeats 4000000 in
set_option maxRecDepth 100000 in
theorem w_X9_read_140 (C : gC G p s m args meth c cX9_read 4 RX9) (hr : meth.sig.returnType = (some .int)) {rec140 : Option Nat → Int32 → Int32 → gM Int32} (hrec140 : ∀ (x0 : Option Nat) (x1 : Int32) (x3 : Int32), gJ G p l e 9 222 mc ms s m args below meth c gri y 4 140 [(0, va_rf x0), (1, .int x1), (3, .int x3)] [] (rec140 x0 x1 x3)) (x0 : Option Nat) (x1 : Int32) (x3 : Int32) : gJ G p l e 9 222 mc ms s m args below meth c gri y 4 140 [(0, va_rf x0), (1, .int x1), (3, .int x3)] [] (f_X9_read_140 rec140 x0 x1 x3) := by
  have hx := C.1
  have hb := C.2.1
  intro σ H locs cells slots ls hf I hl
  unfold f_X9_read_140 at hf
  refine lv_iload_n hx hb dX9_read_140 rfl (lv_at hl 2 rfl) ?_
  refine lv_bipush (v := 6) hx hb dX9_read_141 kc_b_6 ?_
  refine lv_icmp_ge (tgt := 159) hx hb dX9_read_143 (by decide) (fun hq => ?_) (fun hq => ?_)
  · have hf := gift hq hf
    refine gw_aload_n hx hb dX9_read_159 rfl (lv_at hl 0 rfl) ?_
    refine gw_getr (k := 7) C I gcls_8 (by decide) rfl kw_171 dX9_read_160 hf (fun v1 hf => ?_)
    refine lv_iload_n hx hb dX9_read_163 rfl (lv_at hl 1 rfl) ?_
    refine gw_aload_n hx hb dX9_read_164 rfl (lv_at hl 0 rfl) ?_
    refine gw_getr (k := 7) C I gcls_8 (by decide) rfl kw_171 dX9_read_165 hf (fun v2 hf => ?_)
    refine lv_iconst (v := 4) hx hb dX9_read_168 kc_i_4 ?_
    refine gw_zald C I dX9_read_169 hf (fun v3 hf => ?_)
    refine gw_zast C I dX9_read_170 hf (fun σ H locs I hf => ?_)
    refine gw_aload_n hx hb dX9_read_171 rfl (lv_at hl 0 rfl) ?_
    refine gw_getr (k := 8) C I gcls_8 (by decide) rfl kw_172 dX9_read_172 hf (fun v4 hf => ?_)
    refine lv_iload_n hx hb dX9_read_175 rfl (lv_at hl 1 rfl) ?_
    refine gw_aload_n hx hb dX9_read_176 rfl (lv_at hl 0 rfl) ?_
    refine gw_getr (k := 8) C I gcls_8 (by decide) rfl kw_172 dX9_read_177 hf (fun v5 hf => ?_)
    refine lv_iconst (v := 4) hx hb dX9_read_180 kc_i_4 ?_
    refine gw_zald C I dX9_read_181 hf (fun v6 hf => ?_)
    refine gw_zast C I dX9_read_182 hf (fun σ H locs I hf => ?_)
    refine lv_iconst (v := 0) hx hb dX9_read_183 kc_i_0 ?_
    exact gw_iret C I hr dX9_read_184 hf
  · have hf := giff hq hf
    refine gw_aload_n hx hb dX9_read_146 rfl (lv_at hl 0 rfl) ?_
    refine lv_iconst (v := 4) hx hb dX9_read_147 kc_i_4 ?_
    refine lv_iload_n hx hb dX9_read_148 rfl (lv_at hl 1 rfl) ?_
    refine lv_iload_n hx hb dX9_read_149 rfl (lv_at hl 2 rfl) ?_
    refine gw_callV (rest := []) C I hl.1 gcls_8 (m_X9_copyPart G l x0 4 x1 x3) gl_RX9_114 gn_X9_copyPart ⟨Nat.le_of_ble_eq_true rfl, Nat.le_of_ble_eq_true rfl⟩ rfl (gc4 (Nat.le_of_ble_eq_true rfl)) rfl dX9_read_150 hf (fun _ σ H locs cells slots I hf => ?_)
    refine W.eq (g2 := F0 m 153 ls []) rfl ?_
    refine lv_iinc (v := x3 + 1) (lv' := [(3, .int (x3 + 1)), (0, va_rf x0), (1, .int x1)]) hx hb dX9_read_153 hl (k := 2) rfl rfl (by decide) rfl (fun ls hl => ?_)
    refine lv_goto (tgt := 140) hx hb dX9_read_156 (by decide) ?_
    exact hrec140 x0 x1 (x3 + 1) _ _ _ _ _ _ hf I (lv_sub hl [1, 2, 0] rfl)
theorem w_X9_read_L140 (C : gC G p s m args meth c cX9_read 4 RX9) (hr : meth.sig.returnType = (some .int))  : ∀ (n : Nat) (x0 : Option Nat) (x1 : Int32) (x3 : Int32), gJ G p l e 9 222 mc ms s m args below meth c gri y 4 140 [(0, va_rf x0), (1, .int x1), (3, .int x3)] [] (f_X9_read_L140  n x0 x1 x3) := by
  intro n
  induction n with
  | zero => intro x0 x1 x3 σ H locs cells slots ls hf; exact (gno_some hf).elim
  | succ n ih => intro x0 x1 x3; exact w_X9_read_140 C hr  ih x0 x1 x3
set_option maxHeartbeats 4000000 in
set_option maxRecDepth 100000 in
theorem w_X9_read_113 (C : gC G p s m args meth c cX9_read 4 RX9) (hr : meth.sig.returnType = (some .int))  (x0 : Option Nat) (x1 : Int32) : gJ G p l e 9 222 mc ms s m args below meth c gri y 4 113 [(0, va_rf x0), (1, .int x1)] [] (f_X9_read_113  x0 x1) := by
  have hx := C.1
  have hb := C.2.1
  intro σ H locs cells slots ls hf I hl
  unfold f_X9_read_113 at hf
  refine gw_aload_n hx hb dX9_read_113 rfl (lv_at hl 0 rfl) ?_
  refine gw_geti (k := 13) C I gcls_8 (by decide) rfl kw_214 dX9_read_114 hf (fun v1 hf => ?_)
  refine lv_if_eq (tgt := 125) hx hb dX9_read_117 (by decide) (fun hq => ?_) (fun hq => ?_)
  · have hf := gift hq hf
    refine gw_aload_n hx hb dX9_read_125 rfl (lv_at hl 0 rfl) ?_
    refine gw_getr (k := 2) C I gcls_8 (by decide) rfl kw_166 dX9_read_126 hf (fun v2 hf => ?_)
    refine lv_iload_n hx hb dX9_read_129 rfl (lv_at hl 1 rfl) ?_
    refine lv_iconst (v := 1) hx hb dX9_read_130 kc_i_1 ?_
    refine gw_zast C I dX9_read_131 hf (fun σ H locs I hf => ?_)
    refine gw_aload_n hx hb dX9_read_132 rfl (lv_at hl 0 rfl) ?_
    refine lv_iconst (v := 4) hx hb dX9_read_133 kc_i_4 ?_
    refine lv_iload_n hx hb dX9_read_134 rfl (lv_at hl 1 rfl) ?_
    refine gw_callV (rest := []) C I hl.1 gcls_8 (m_X9_copyHost G l x0 4 x1) gl_RX9_173 gn_X9_copyHost ⟨Nat.le_of_ble_eq_true rfl, Nat.le_of_ble_eq_true rfl⟩ rfl (gc4 (Nat.le_of_ble_eq_true rfl)) rfl dX9_read_135 hf (fun _ σ H locs cells slots I hf => ?_)
    refine W.eq (g2 := F0 m 138 ls []) rfl ?_
    refine lv_iconst (v := 3) hx hb dX9_read_138 kc_i_3 ?_
    refine lv_istore_n (lv' := [(3, .int 3), (0, va_rf x0), (1, .int x1)]) hx hb dX9_read_139 rfl hl (by decide) rfl (fun ls hl => ?_)
    exact w_X9_read_L140 C hr  _ x0 x1 3 _ _ _ _ _ _ hf I (lv_sub hl [1, 2, 0] rfl)
  · have hf := giff hq hf
    refine gw_aload_n hx hb dX9_read_120 rfl (lv_at hl 0 rfl) ?_
    refine gw_geti (k := 13) C I gcls_8 (by decide) rfl kw_214 dX9_read_121 hf (fun v3 hf => ?_)
    exact gw_iret C I hr dX9_read_124 hf
set_option maxHeartbeats 4000000 in
set_option maxRecDepth 100000 in
theorem w_X9_read_36 (C : gC G p s m args meth c cX9_read 4 RX9) (hr : meth.sig.returnType = (some .int)) {rec36 : Option Nat → Int32 → Int32 → Int32 → gM Int32} (hrec36 : ∀ (x0 : Option Nat) (x1 : Int32) (x2 : Int32) (x3 : Int32), gJ G p l e 9 222 mc ms s m args below meth c gri y 4 36 [(0, va_rf x0), (1, .int x1), (2, .int x2), (3, .int x3)] [] (rec36 x0 x1 x2 x3)) (x0 : Option Nat) (x1 : Int32) (x2 : Int32) (x3 : Int32) : gJ G p l e 9 222 mc ms s m args below meth c gri y 4 36 [(0, va_rf x0), (1, .int x1), (2, .int x2), (3, .int x3)] [] (f_X9_read_36 rec36 x0 x1 x2 x3) := by
  have hx := C.1
  have hb := C.2.1
  intro σ H locs cells slots ls hf I hl
  unfold f_X9_read_36 at hf
  refine lv_iload_n hx hb dX9_read_36 rfl (lv_at hl 3 rfl) ?_
  refine lv_bipush (v := 6) hx hb dX9_read_37 kc_b_6 ?_
  refine lv_icmp_ge (tgt := 58) hx hb dX9_read_39 (by decide) (fun hq => ?_) (fun hq => ?_)
  · have hf := gift hq hf
    refine gw_aload_n hx hb dX9_read_58 rfl (lv_at hl 0 rfl) ?_
    refine gw_getr (k := 7) C I gcls_8 (by decide) rfl kw_171 dX9_read_59 hf (fun v1 hf => ?_)
    refine lv_iconst (v := 4) hx hb dX9_read_62 kc_i_4 ?_
    refine lv_iconst (v := 0) hx hb dX9_read_63 kc_i_0 ?_
    refine gw_zast C I dX9_read_64 hf (fun σ H locs I hf => ?_)
    refine gw_aload_n hx hb dX9_read_65 rfl (lv_at hl 0 rfl) ?_
    refine gw_getr (k := 8) C I gcls_8 (by decide) rfl kw_172 dX9_read_66 hf (fun v2 hf => ?_)
    refine lv_iconst (v := 4) hx hb dX9_read_69 kc_i_4 ?_
    refine lv_iconst (v := 0) hx hb dX9_read_70 kc_i_0 ?_
    refine gw_zast C I dX9_read_71 hf (fun σ H locs I hf => ?_)
    refine gw_aload_n hx hb dX9_read_72 rfl (lv_at hl 0 rfl) ?_
    refine gw_getr (k := 4) C I gcls_8 (by decide) rfl kw_168 dX9_read_73 hf (fun v3 hf => ?_)
    refine lv_iconst (v := 4) hx hb dX9_read_76 kc_i_4 ?_
    refine lv_iconst (v := (-1)) hx hb dX9_read_77 kc_i_m1 ?_
    refine gw_iast C I dX9_read_78 hf (fun σ H locs I hf => ?_)
    refine gw_aload_n hx hb dX9_read_79 rfl (lv_at hl 0 rfl) ?_
    refine lv_iconst (v := 0) hx hb dX9_read_80 kc_i_0 ?_
    refine gw_puti (k := 13) C I gcls_8 (by decide) rfl kw_214 (Or.inl rfl) (by decide +kernel) dX9_read_81 hf (fun σ H locs I hf => ?_)
    refine gw_aload_n hx hb dX9_read_84 rfl (lv_at hl 0 rfl) ?_
    refine lv_iload_n hx hb dX9_read_85 rfl (lv_at hl 2 rfl) ?_
    refine gw_callV (rest := []) C I hl.1 gcls_8 (m_X9_readScheme G l x0 x2) gl_RX9_166 gn_X9_readScheme ⟨Nat.le_of_ble_eq_true rfl, Nat.le_of_ble_eq_true rfl⟩ rfl (gc4 (Nat.le_of_ble_eq_true rfl)) rfl dX9_read_86 hf (fun _ σ H locs cells slots I hf => ?_)
    refine W.eq (g2 := F0 m 89 ls []) rfl ?_
    refine gw_aload_n hx hb dX9_read_89 rfl (lv_at hl 0 rfl) ?_
    refine gw_geti (k := 13) C I gcls_8 (by decide) rfl kw_214 dX9_read_90 hf (fun v4 hf => ?_)
    refine lv_if_ne (tgt := 113) hx hb dX9_read_93 (by decide) (fun hq => ?_) (fun hq => ?_)
    · have hf := giff hq hf
      exact w_X9_read_113 C hr  x0 x1 _ _ _ _ _ _ hf I (lv_sub hl [0, 1] rfl)
    · have hf := gift hq hf
      refine gw_aload_n hx hb dX9_read_96 rfl (lv_at hl 0 rfl) ?_
      refine lv_iconst (v := 4) hx hb dX9_read_97 kc_i_4 ?_
      refine gw_callV (rest := []) C I hl.1 gcls_8 (m_X9_writtenLength G l x0 4) gl_RX9_170 gn_X9_writtenLength ⟨Nat.le_of_ble_eq_true rfl, Nat.le_of_ble_eq_true rfl⟩ rfl (gc4 (Nat.le_of_ble_eq_true rfl)) rfl dX9_read_98 hf (fun v5 σ H locs cells slots I hf => ?_)
      refine W.eq (g2 := F0 m 101 ls [.int v5]) rfl ?_
      refine lv_sipush (v := 1000) hx hb dX9_read_101 kc_s_1000 ?_
      refine lv_icmp_le (tgt := 113) hx hb dX9_read_104 (by decide) (fun hq => ?_) (fun hq => ?_)
      · have hf := gift hq hf
        exact w_X9_read_113 C hr  x0 x1 _ _ _ _ _ _ hf I (lv_sub hl [0, 1] rfl)
      · have hf := giff hq hf
        refine gw_aload_n hx hb dX9_read_107 rfl (lv_at hl 0 rfl) ?_
        refine lv_bipush (v := (-3)) hx hb dX9_read_108 kc_b_m3 ?_
        refine gw_puti (k := 13) C I gcls_8 (by decide) rfl kw_214 (Or.inl rfl) (by decide +kernel) dX9_read_110 hf (fun σ H locs I hf => ?_)
        exact w_X9_read_113 C hr  x0 x1 _ _ _ _ _ _ hf I (lv_sub hl [0, 1] rfl)
  · have hf := giff hq hf
    refine gw_aload_n hx hb dX9_read_42 rfl (lv_at hl 0 rfl) ?_
    refine gw_getr (k := 10) C I gcls_8 (by decide) rfl kw_175 dX9_read_43 hf (fun v6 hf => ?_)
    refine lv_bipush (v := 24) hx hb dX9_read_46 kc_b_24 ?_
    refine lv_iload_n hx hb dX9_read_48 rfl (lv_at hl 3 rfl) ?_
    refine lv_iadd hx hb dX9_read_49 ?_
    refine lv_iconst (v := 0) hx hb dX9_read_50 kc_i_0 ?_
    refine gw_iast C I dX9_read_51 hf (fun σ H locs I hf => ?_)
    refine lv_iinc (v := x3 + 1) (lv' := [(3, .int (x3 + 1)), (0, va_rf x0), (1, .int x1), (2, .int x2)]) hx hb dX9_read_52 hl (k := 3) rfl rfl (by decide) rfl (fun ls hl => ?_)
    refine lv_goto (tgt := 36) hx hb dX9_read_55 (by decide) ?_
    exact hrec36 x0 x1 x2 (x3 + 1) _ _ _ _ _ _ hf I (lv_sub hl [1, 2, 3, 0] rfl)
theorem w_X9_read_L36 (C : gC G p s m args meth c cX9_read 4 RX9) (hr : meth.sig.returnType = (some .int))  : ∀ (n : Nat) (x0 : Option Nat) (x1 : Int32) (x2 : Int32) (x3 : Int32), gJ G p l e 9 222 mc ms s m args below meth c gri y 4 36 [(0, va_rf x0), (1, .int x1), (2, .int x2), (3, .int x3)] [] (f_X9_read_L36  n x0 x1 x2 x3) := by
  intro n
  induction n with
  | zero => intro x0 x1 x2 x3 σ H locs cells slots ls hf; exact (gno_some hf).elim
  | succ n ih => intro x0 x1 x2 x3; exact w_X9_read_36 C hr  ih x0 x1 x2 x3
set_option maxHeartbeats 4000000 in
set_option maxRecDepth 100000 in
theorem w_X9_read_25 (C : gC G p s m args meth c cX9_read 4 RX9) (hr : meth.sig.returnType = (some .int))  (x0 : Option Nat) (x1 : Int32) (x2 : Int32) : gJ G p l e 9 222 mc ms s m args below meth c gri y 4 25 [(0, va_rf x0), (1, .int x1), (2, .int x2)] [] (f_X9_read_25  x0 x1 x2) := by
  have hx := C.1
  have hb := C.2.1
  intro σ H locs cells slots ls hf I hl
  unfold f_X9_read_25 at hf
  refine gw_aload_n hx hb dX9_read_25 rfl (lv_at hl 0 rfl) ?_
  refine gw_callV (rest := []) C I hl.1 gcls_8 (m_X9_takeText G l x0) gl_RX9_160 gn_X9_takeText ⟨Nat.le_of_ble_eq_true rfl, Nat.le_of_ble_eq_true rfl⟩ rfl (gc4 (Nat.le_of_ble_eq_true rfl)) rfl dX9_read_26 hf (fun _ σ H locs cells slots I hf => ?_)
  refine W.eq (g2 := F0 m 29 ls []) rfl ?_
  refine gw_aload_n hx hb dX9_read_29 rfl (lv_at hl 0 rfl) ?_
  refine lv_iconst (v := 0) hx hb dX9_read_30 kc_i_0 ?_
  refine gw_puti (k := 1) C I gcls_8 (by decide) rfl kw_195 (Or.inl rfl) (by decide +kernel) dX9_read_31 hf (fun σ H locs I hf => ?_)
  refine lv_iconst (v := 0) hx hb dX9_read_34 kc_i_0 ?_
  refine lv_istore_n (lv' := [(3, .int 0), (0, va_rf x0), (1, .int x1), (2, .int x2)]) hx hb dX9_read_35 rfl hl (by decide) rfl (fun ls hl => ?_)
  exact w_X9_read_L36 C hr  _ x0 x1 x2 0 _ _ _ _ _ _ hf I (lv_sub hl [1, 2, 3, 0] rfl)
set_option maxHeartbeats 4000000 in
set_option maxRecDepth 100000 in
theorem w_X9_read_0 (C : gC G p s m args meth c cX9_read 4 RX9) (hr : meth.sig.returnType = (some .int))  (a0 : Option Nat) (a1 : Int32) (a2 : Int32) : gJ G p l e 9 222 mc ms s m args below meth c gri y 4 0 [(0, va_rf a0), (1, .int a1), (2, .int a2)] [] (f_X9_read  a0 a1 a2) := by
  have hx := C.1
  have hb := C.2.1
  intro σ H locs cells slots ls hf I hl
  unfold f_X9_read at hf
  refine lv_iload_n hx hb dX9_read_0 rfl (lv_at hl 1 rfl) ?_
  refine lv_iconst (v := 0) hx hb dX9_read_1 kc_i_0 ?_
  refine lv_iconst (v := 3) hx hb dX9_read_2 kc_i_3 ?_
  refine gw_callS (rest := []) C I hl.1 (m_X9_isIn G l a1 0 3) gl_RX9_91 kw_192 ⟨Nat.le_of_ble_eq_true rfl, Nat.le_of_ble_eq_true rfl⟩ rfl (gc4 (Nat.le_of_ble_eq_true rfl)) rfl dX9_read_3 hf (fun v1 σ H locs cells slots I hf => ?_)
  refine W.eq (g2 := F0 m 6 ls [.int v1]) rfl ?_
  refine lv_if_eq (tgt := 22) hx hb dX9_read_6 (by decide) (fun hq => ?_) (fun hq => ?_)
  · have hf := gift hq hf
    refine lv_bipush (v := (-2)) hx hb dX9_read_22 kc_b_m2 ?_
    exact gw_iret C I hr dX9_read_24 hf
  · have hf := giff hq hf
    refine lv_iload_n hx hb dX9_read_9 rfl (lv_at hl 2 rfl) ?_
    refine lv_iconst (v := (-1)) hx hb dX9_read_10 kc_i_m1 ?_
    refine lv_icmp_eq (tgt := 25) hx hb dX9_read_11 (by decide) (fun hq => ?_) (fun hq => ?_)
    · have hf := gift hq hf
      exact w_X9_read_25 C hr  a0 a1 a2 _ _ _ _ _ _ hf I (lv_sub hl [0, 1, 2] rfl)
    · have hf := giff hq hf
      refine gw_aload_n hx hb dX9_read_14 rfl (lv_at hl 0 rfl) ?_
      refine lv_iload_n hx hb dX9_read_15 rfl (lv_at hl 2 rfl) ?_
      refine gw_callV (rest := []) C I hl.1 gcls_8 (m_X9_has G l a0 a2) gl_RX9_157 gn_X9_has ⟨Nat.le_of_ble_eq_true rfl, Nat.le_of_ble_eq_true rfl⟩ rfl (gc4 (Nat.le_of_ble_eq_true rfl)) rfl dX9_read_16 hf (fun v2 σ H locs cells slots I hf => ?_)
      refine W.eq (g2 := F0 m 19 ls [.int v2]) rfl ?_
      refine lv_if_ne (tgt := 25) hx hb dX9_read_19 (by decide) (fun hq => ?_) (fun hq => ?_)
      · have hf := giff hq hf
        exact w_X9_read_25 C hr  a0 a1 a2 _ _ _ _ _ _ hf I (lv_sub hl [0, 1, 2] rfl)
      · have hf := gift hq hf
        refine lv_bipush (v := (-2)) hx hb dX9_read_22 kc_b_m2 ?_
        exact gw_iret C I hr dX9_read_24 hf
end S_X9_read
theorem m_X9_read (G : gX) (l : Launch) (a0 : Option Nat) (a1 : Int32) (a2 : Int32) : gMet G l yX9_read cX9_read 4 (some .int) 9 222 [va_rf a0, .int a1, .int a2] gri (f_X9_read a0 a1 a2) := by
  refine gMet_of (by decide) ?_
  intro σ y p e s m below meth c mc ms hf C hr hnm I
  obtain ⟨ls, e1, hl⟩ := gentry m [va_rf a0, .int a1, .int a2] 4 [(0, va_rf a0), (1, .int a1), (2, .int a2)] (by simp [lg_sl, grc, gcat_i, gcat_l]) (by simp [lv_args, grc, gcat_i, gcat_l])
  rw [e1]
  exact w_X9_read_0 C hr a0 a1 a2 _ _ _ _ _ _ hf I hl
def f_X9_say  (a0 : Option Nat) (a1 : Int32) : gM Unit := gb (rR 8 0 a0) fun v1 => gb (rI 8 1 a0) fun v2 => gb (sI 0 v1 v2 a1.toInt8.toInt32) fun _ => gb (rI 8 1 a0) fun v3 => gb (wI 8 1 a0 (v3 + 1)) fun _ => gp ()
section S_X9_say
variable {G : gX} {p : Program} {l : Launch} {e : Env} {s : State} {m : MethodId} {args : Array Value} {below : List Frame} {meth : Method} {c : Code} {mc ms : Nat} {y : Unit × gS}
set_option maxHeartbeats 4000000 in
set_option maxRecDepth 100000 in
theorem w_X9_say_0 (C : gC G p s m args meth c cX9_say 2 RX9) (hr : meth.sig.returnType = none)  (a0 : Option Nat) (a1 : Int32) : gJ G p l e 0 0 mc ms s m args below meth c grv y 2 0 [(0, va_rf a0), (1, .int a1)] [] (f_X9_say  a0 a1) := by
  have hx := C.1
  have hb := C.2.1
  intro σ H locs cells slots ls hf I hl
  unfold f_X9_say at hf
  refine gw_aload_n hx hb dX9_say_0 rfl (lv_at hl 0 rfl) ?_
  refine gw_getr (k := 0) C I gcls_8 (by decide) rfl kw_165 dX9_say_1 hf (fun v1 hf => ?_)
  refine gw_aload_n hx hb dX9_say_4 rfl (lv_at hl 0 rfl) ?_
  refine gw_geti (k := 1) C I gcls_8 (by decide) rfl kw_195 dX9_say_5 hf (fun v2 hf => ?_)
  refine lv_iload_n hx hb dX9_say_8 rfl (lv_at hl 1 rfl) ?_
  refine lv_i2b hx hb dX9_say_9 rfl ?_
  refine gw_bast C I dX9_say_10 hf (fun σ H locs I hf => ?_)
  refine gw_aload_n hx hb dX9_say_11 rfl (lv_at hl 0 rfl) ?_
  refine lv_dup hx hb dX9_say_12 (grc _) ?_
  refine gw_geti (k := 1) C I gcls_8 (by decide) rfl kw_195 dX9_say_13 hf (fun v3 hf => ?_)
  refine lv_iconst (v := 1) hx hb dX9_say_16 kc_i_1 ?_
  refine lv_iadd hx hb dX9_say_17 ?_
  refine gw_puti (k := 1) C I gcls_8 (by decide) rfl kw_195 (Or.inl rfl) (by decide +kernel) dX9_say_18 hf (fun σ H locs I hf => ?_)
  exact gw_vret C I hr dX9_say_21 hf
end S_X9_say
theorem m_X9_say (G : gX) (l : Launch) (a0 : Option Nat) (a1 : Int32) : gMet G l yX9_say cX9_say 2 none 0 0 [va_rf a0, .int a1] grv (f_X9_say a0 a1) := by
  refine gMet_of (by decide) ?_
  intro σ y p e s m below meth c mc ms hf C hr hnm I
  obtain ⟨ls, e1, hl⟩ := gentry m [va_rf a0, .int a1] 2 [(0, va_rf a0), (1, .int a1)] (by simp [lg_sl, grc, gcat_i, gcat_l]) (by simp [lv_args, grc, gcat_i, gcat_l])
  rw [e1]
  exact w_X9_say_0 C hr a0 a1 _ _ _ _ _ _ hf I hl
def f_X9_sayPart_2 (rec2 : Option Nat → Int32 → Int32 → Int32 → gM Unit) (x0 : Option Nat) (x1 : Int32) (x2 : Int32) (x3 : Int32) : gM Unit := gb (nn 8 x0) fun _ => gb (f_X9_sizeOf x0 x1 x2) fun v1 => if v1 ≤ x3 then (gp ()) else (gb (rR 8 9 x0) fun v2 => gb (nn 8 x0) fun _ => gb (f_X9_row x0 x1 x2) fun v3 => gb (aI 0 v2 (v3 + x3)) fun v4 => gb (nn 8 x0) fun _ => gb (f_X9_say x0 v4) fun _ => rec2 x0 x1 x2 (x3 + 1))
def f_X9_sayPart_L2  : Nat → Option Nat → Int32 → Int32 → Int32 → gM Unit
  | 0, _, _, _, _ => gno
  | n + 1, x0, x1, x2, x3 => f_X9_sayPart_2  (f_X9_sayPart_L2  n) x0 x1 x2 x3
def f_X9_sayPart  (a0 : Option Nat) (a1 : Int32) (a2 : Int32) : gM Unit := f_X9_sayPart_L2  gF a0 a1 a2 0
section S_X9_sayPart
variable {G : gX} {p : Program} {l : Launch} {e : Env} {s : State} {m : MethodId} {args : Array Value} {below : List Frame} {meth : Method} {c : Code} {mc ms : Nat} {y : Unit × gS}
set_option maxHeartbeats 4000000 in
set_option maxRecDepth 100000 in
theorem w_X9_sayPart_2 (C : gC G p s m args meth c cX9_sayPart 4 RX9) (hr : meth.sig.returnType = none) {rec2 : Option Nat → Int32 → Int32 → Int32 → gM Unit} (hrec2 : ∀ (x0 : Option Nat) (x1 : Int32) (x2 : Int32) (x3 : Int32), gJ G p l e 1 22 mc ms s m args below meth c grv y 4 2 [(0, va_rf x0), (1, .int x1), (2, .int x2), (3, .int x3)] [] (rec2 x0 x1 x2 x3)) (x0 : Option Nat) (x1 : Int32) (x2 : Int32) (x3 : Int32) : gJ G p l e 1 22 mc ms s m args below meth c grv y 4 2 [(0, va_rf x0), (1, .int x1), (2, .int x2), (3, .int x3)] [] (f_X9_sayPart_2 rec2 x0 x1 x2 x3) := by
  have hx := C.1
  have hb := C.2.1
  intro σ H locs cells slots ls hf I hl
  unfold f_X9_sayPart_2 at hf
  refine lv_iload_n hx hb dX9_sayPart_2 rfl (lv_at hl 3 rfl) ?_
  refine gw_aload_n hx hb dX9_sayPart_3 rfl (lv_at hl 0 rfl) ?_
  refine lv_iload_n hx hb dX9_sayPart_4 rfl (lv_at hl 1 rfl) ?_
  refine lv_iload_n hx hb dX9_sayPart_5 rfl (lv_at hl 2 rfl) ?_
  refine gw_callV (rest := [.int x3]) C I hl.1 gcls_8 (m_X9_sizeOf G l x0 x1 x2) gl_RX9_107 gn_X9_sizeOf ⟨Nat.le_of_ble_eq_true rfl, Nat.le_of_ble_eq_true rfl⟩ rfl (gc4 (Nat.le_of_ble_eq_true rfl)) rfl dX9_sayPart_6 hf (fun v1 σ H locs cells slots I hf => ?_)
  refine W.eq (g2 := F0 m 9 ls [.int v1, .int x3]) rfl ?_
  refine lv_icmp_ge (tgt := 35) hx hb dX9_sayPart_9 (by decide) (fun hq => ?_) (fun hq => ?_)
  · have hf := gift hq hf
    exact gw_vret C I hr dX9_sayPart_35 hf
  · have hf := giff hq hf
    refine gw_aload_n hx hb dX9_sayPart_12 rfl (lv_at hl 0 rfl) ?_
    refine gw_aload_n hx hb dX9_sayPart_13 rfl (lv_at hl 0 rfl) ?_
    refine gw_getr (k := 9) C I gcls_8 (by decide) rfl kw_174 dX9_sayPart_14 hf (fun v2 hf => ?_)
    refine gw_aload_n hx hb dX9_sayPart_17 rfl (lv_at hl 0 rfl) ?_
    refine lv_iload_n hx hb dX9_sayPart_18 rfl (lv_at hl 1 rfl) ?_
    refine lv_iload_n hx hb dX9_sayPart_19 rfl (lv_at hl 2 rfl) ?_
    refine gw_callV (rest := [va_rf v2, va_rf x0]) C I hl.1 gcls_8 (m_X9_row G l x0 x1 x2) gl_RX9_111 gn_X9_row ⟨Nat.le_of_ble_eq_true rfl, Nat.le_of_ble_eq_true rfl⟩ rfl (gc4 (Nat.le_of_ble_eq_true rfl)) rfl dX9_sayPart_20 hf (fun v3 σ H locs cells slots I hf => ?_)
    refine W.eq (g2 := F0 m 23 ls [.int v3, va_rf v2, va_rf x0]) rfl ?_
    refine lv_iload_n hx hb dX9_sayPart_23 rfl (lv_at hl 3 rfl) ?_
    refine lv_iadd hx hb dX9_sayPart_24 ?_
    refine gw_bald C I dX9_sayPart_25 hf (fun v4 hf => ?_)
    refine gw_callV (rest := []) C I hl.1 gcls_8 (m_X9_say G l x0 v4) gl_RX9_287 gn_X9_say ⟨Nat.le_of_ble_eq_true rfl, Nat.le_of_ble_eq_true rfl⟩ rfl (gc4 (Nat.le_of_ble_eq_true rfl)) rfl dX9_sayPart_26 hf (fun _ σ H locs cells slots I hf => ?_)
    refine W.eq (g2 := F0 m 29 ls []) rfl ?_
    refine lv_iinc (v := x3 + 1) (lv' := [(3, .int (x3 + 1)), (0, va_rf x0), (1, .int x1), (2, .int x2)]) hx hb dX9_sayPart_29 hl (k := 3) rfl rfl (by decide) rfl (fun ls hl => ?_)
    refine lv_goto (tgt := 2) hx hb dX9_sayPart_32 (by decide) ?_
    exact hrec2 x0 x1 x2 (x3 + 1) _ _ _ _ _ _ hf I (lv_sub hl [1, 2, 3, 0] rfl)
theorem w_X9_sayPart_L2 (C : gC G p s m args meth c cX9_sayPart 4 RX9) (hr : meth.sig.returnType = none)  : ∀ (n : Nat) (x0 : Option Nat) (x1 : Int32) (x2 : Int32) (x3 : Int32), gJ G p l e 1 22 mc ms s m args below meth c grv y 4 2 [(0, va_rf x0), (1, .int x1), (2, .int x2), (3, .int x3)] [] (f_X9_sayPart_L2  n x0 x1 x2 x3) := by
  intro n
  induction n with
  | zero => intro x0 x1 x2 x3 σ H locs cells slots ls hf; exact (gno_some hf).elim
  | succ n ih => intro x0 x1 x2 x3; exact w_X9_sayPart_2 C hr  ih x0 x1 x2 x3
set_option maxHeartbeats 4000000 in
set_option maxRecDepth 100000 in
theorem w_X9_sayPart_0 (C : gC G p s m args meth c cX9_sayPart 4 RX9) (hr : meth.sig.returnType = none)  (a0 : Option Nat) (a1 : Int32) (a2 : Int32) : gJ G p l e 1 22 mc ms s m args below meth c grv y 4 0 [(0, va_rf a0), (1, .int a1), (2, .int a2)] [] (f_X9_sayPart  a0 a1 a2) := by
  have hx := C.1
  have hb := C.2.1
  intro σ H locs cells slots ls hf I hl
  unfold f_X9_sayPart at hf
  refine lv_iconst (v := 0) hx hb dX9_sayPart_0 kc_i_0 ?_
  refine lv_istore_n (lv' := [(3, .int 0), (0, va_rf a0), (1, .int a1), (2, .int a2)]) hx hb dX9_sayPart_1 rfl hl (by decide) rfl (fun ls hl => ?_)
  exact w_X9_sayPart_L2 C hr  _ a0 a1 a2 0 _ _ _ _ _ _ hf I (lv_sub hl [1, 2, 3, 0] rfl)
end S_X9_sayPart
theorem m_X9_sayPart (G : gX) (l : Launch) (a0 : Option Nat) (a1 : Int32) (a2 : Int32) : gMet G l yX9_sayPart cX9_sayPart 4 none 1 22 [va_rf a0, .int a1, .int a2] grv (f_X9_sayPart a0 a1 a2) := by
  refine gMet_of (by decide) ?_
  intro σ y p e s m below meth c mc ms hf C hr hnm I
  obtain ⟨ls, e1, hl⟩ := gentry m [va_rf a0, .int a1, .int a2] 4 [(0, va_rf a0), (1, .int a1), (2, .int a2)] (by simp [lg_sl, grc, gcat_i, gcat_l]) (by simp [lv_args, grc, gcat_i, gcat_l])
  rw [e1]
  exact w_X9_sayPart_0 C hr a0 a1 a2 _ _ _ _ _ _ hf I hl
def f_X9_sayWritten_2 (rec2 : Option Nat → Int32 → gM Unit) (x0 : Option Nat) (x1 : Int32) : gM Unit := gb (rI 8 19 x0) fun v1 => if v1 ≤ x1 then (gp ()) else (gb (rR 8 18 x0) fun v2 => gb (aI 0 v2 x1) fun v3 => gb (nn 8 x0) fun _ => gb (f_X9_say x0 v3) fun _ => rec2 x0 (x1 + 1))
def f_X9_sayWritten_L2  : Nat → Option Nat → Int32 → gM Unit
  | 0, _, _ => gno
  | n + 1, x0, x1 => f_X9_sayWritten_2  (f_X9_sayWritten_L2  n) x0 x1
def f_X9_sayWritten  (a0 : Option Nat) : gM Unit := f_X9_sayWritten_L2  gF a0 0
section S_X9_sayWritten
variable {G : gX} {p : Program} {l : Launch} {e : Env} {s : State} {m : MethodId} {args : Array Value} {below : List Frame} {meth : Method} {c : Code} {mc ms : Nat} {y : Unit × gS}
set_option maxHeartbeats 4000000 in
set_option maxRecDepth 100000 in
theorem w_X9_sayWritten_2 (C : gC G p s m args meth c cX9_sayWritten 2 RX9) (hr : meth.sig.returnType = none) {rec2 : Option Nat → Int32 → gM Unit} (hrec2 : ∀ (x0 : Option Nat) (x1 : Int32), gJ G p l e 1 21 mc ms s m args below meth c grv y 2 2 [(0, va_rf x0), (1, .int x1)] [] (rec2 x0 x1)) (x0 : Option Nat) (x1 : Int32) : gJ G p l e 1 21 mc ms s m args below meth c grv y 2 2 [(0, va_rf x0), (1, .int x1)] [] (f_X9_sayWritten_2 rec2 x0 x1) := by
  have hx := C.1
  have hb := C.2.1
  intro σ H locs cells slots ls hf I hl
  unfold f_X9_sayWritten_2 at hf
  refine lv_iload_n hx hb dX9_sayWritten_2 rfl (lv_at hl 1 rfl) ?_
  refine gw_aload_n hx hb dX9_sayWritten_3 rfl (lv_at hl 0 rfl) ?_
  refine gw_geti (k := 19) C I gcls_8 (by decide) rfl kw_218 dX9_sayWritten_4 hf (fun v1 hf => ?_)
  refine lv_icmp_ge (tgt := 26) hx hb dX9_sayWritten_7 (by decide) (fun hq => ?_) (fun hq => ?_)
  · have hf := gift hq hf
    exact gw_vret C I hr dX9_sayWritten_26 hf
  · have hf := giff hq hf
    refine gw_aload_n hx hb dX9_sayWritten_10 rfl (lv_at hl 0 rfl) ?_
    refine gw_aload_n hx hb dX9_sayWritten_11 rfl (lv_at hl 0 rfl) ?_
    refine gw_getr (k := 18) C I gcls_8 (by decide) rfl kw_179 dX9_sayWritten_12 hf (fun v2 hf => ?_)
    refine lv_iload_n hx hb dX9_sayWritten_15 rfl (lv_at hl 1 rfl) ?_
    refine gw_bald C I dX9_sayWritten_16 hf (fun v3 hf => ?_)
    refine gw_callV (rest := []) C I hl.1 gcls_8 (m_X9_say G l x0 v3) gl_RX9_287 gn_X9_say ⟨Nat.le_of_ble_eq_true rfl, Nat.le_of_ble_eq_true rfl⟩ rfl (gc4 (Nat.le_of_ble_eq_true rfl)) rfl dX9_sayWritten_17 hf (fun _ σ H locs cells slots I hf => ?_)
    refine W.eq (g2 := F0 m 20 ls []) rfl ?_
    refine lv_iinc (v := x1 + 1) (lv' := [(1, .int (x1 + 1)), (0, va_rf x0)]) hx hb dX9_sayWritten_20 hl (k := 1) rfl rfl (by decide) (by cases x0 <;> rfl) (fun ls hl => ?_)
    refine lv_goto (tgt := 2) hx hb dX9_sayWritten_23 (by decide) ?_
    exact hrec2 x0 (x1 + 1) _ _ _ _ _ _ hf I (lv_sub hl [1, 0] rfl)
theorem w_X9_sayWritten_L2 (C : gC G p s m args meth c cX9_sayWritten 2 RX9) (hr : meth.sig.returnType = none)  : ∀ (n : Nat) (x0 : Option Nat) (x1 : Int32), gJ G p l e 1 21 mc ms s m args below meth c grv y 2 2 [(0, va_rf x0), (1, .int x1)] [] (f_X9_sayWritten_L2  n x0 x1) := by
  intro n
  induction n with
  | zero => intro x0 x1 σ H locs cells slots ls hf; exact (gno_some hf).elim
  | succ n ih => intro x0 x1; exact w_X9_sayWritten_2 C hr  ih x0 x1
set_option maxHeartbeats 4000000 in
set_option maxRecDepth 100000 in
theorem w_X9_sayWritten_0 (C : gC G p s m args meth c cX9_sayWritten 2 RX9) (hr : meth.sig.returnType = none)  (a0 : Option Nat) : gJ G p l e 1 21 mc ms s m args below meth c grv y 2 0 [(0, va_rf a0)] [] (f_X9_sayWritten  a0) := by
  have hx := C.1
  have hb := C.2.1
  intro σ H locs cells slots ls hf I hl
  unfold f_X9_sayWritten at hf
  refine lv_iconst (v := 0) hx hb dX9_sayWritten_0 kc_i_0 ?_
  refine lv_istore_n (lv' := [(1, .int 0), (0, va_rf a0)]) hx hb dX9_sayWritten_1 rfl hl (by decide) (by cases a0 <;> rfl) (fun ls hl => ?_)
  exact w_X9_sayWritten_L2 C hr  _ a0 0 _ _ _ _ _ _ hf I (lv_sub hl [1, 0] rfl)
end S_X9_sayWritten
theorem m_X9_sayWritten (G : gX) (l : Launch) (a0 : Option Nat) : gMet G l yX9_sayWritten cX9_sayWritten 2 none 1 21 [va_rf a0] grv (f_X9_sayWritten a0) := by
  refine gMet_of (by decide) ?_
  intro σ y p e s m below meth c mc ms hf C hr hnm I
  obtain ⟨ls, e1, hl⟩ := gentry m [va_rf a0] 2 [(0, va_rf a0)] (by simp [lg_sl, grc, gcat_i, gcat_l]) (by simp [lv_args, grc, gcat_i, gcat_l])
  rw [e1]
  exact w_X9_sayWritten_0 C hr a0 _ _ _ _ _ _ hf I hl
def f_X9_write_225  (x0 : Option Nat) : gM Int32 := gb (rI 8 1 x0) fun v1 => gp v1
def f_X9_write_204  (x0 : Option Nat) (x1 : Int32) : gM Int32 := gb (rR 8 8 x0) fun v1 => gb (aI 2 v1 x1) fun v2 => if v2 = 0 then (f_X9_write_225  x0) else (gb (nn 8 x0) fun _ => gb (f_X9_say x0 35) fun _ => gb (nn 8 x0) fun _ => gb (f_X9_sayPart x0 x1 5) fun _ => f_X9_write_225  x0)
def f_X9_write_177  (x0 : Option Nat) (x1 : Int32) : gM Int32 := gb (nn 8 x0) fun _ => gb (f_X9_sayPart x0 x1 3) fun _ => gb (rR 8 7 x0) fun v1 => gb (aI 2 v1 x1) fun v2 => if v2 = 0 then (f_X9_write_204  x0 x1) else (gb (nn 8 x0) fun _ => gb (f_X9_say x0 63) fun _ => gb (nn 8 x0) fun _ => gb (f_X9_sayPart x0 x1 4) fun _ => f_X9_write_204  x0 x1)
def f_X9_write_134  (x0 : Option Nat) (x1 : Int32) : gM Int32 := gb (nn 8 x0) fun _ => gb (f_X9_writeHost x0 x1) fun _ => gb (nn 8 x0) fun _ => gb (f_X9_sayWritten x0) fun _ => gb (rR 8 4 x0) fun v1 => gb (aI 1 v1 x1) fun v2 => if v2 < 0 then (f_X9_write_177  x0 x1) else (gb (nn 8 x0) fun _ => gb (f_X9_say x0 58) fun _ => gb (wI 8 19 x0 0) fun _ => gb (rR 8 4 x0) fun v3 => gb (aI 1 v3 x1) fun v4 => gb (nn 8 x0) fun _ => gb (f_X9_putDecimal x0 v4) fun _ => gb (nn 8 x0) fun _ => gb (f_X9_sayWritten x0) fun _ => f_X9_write_177  x0 x1)
def f_X9_write_128  (x0 : Option Nat) (x1 : Int32) : gM Int32 := gb (nn 8 x0) fun _ => gb (f_X9_say x0 64) fun _ => f_X9_write_134  x0 x1
def f_X9_write_101  (x0 : Option Nat) (x1 : Int32) : gM Int32 := gb (nn 8 x0) fun _ => gb (f_X9_sayPart x0 x1 0) fun _ => gb (nn 8 x0) fun _ => gb (f_X9_sizeOf x0 x1 1) fun v1 => if v1 ≤ 0 then (f_X9_write_128  x0 x1) else (gb (nn 8 x0) fun _ => gb (f_X9_say x0 58) fun _ => gb (nn 8 x0) fun _ => gb (f_X9_sayPart x0 x1 1) fun _ => f_X9_write_128  x0 x1)
def f_X9_write_32 (rec32 : Option Nat → Int32 → Int32 → gM Int32) (x0 : Option Nat) (x1 : Int32) (x2 : Int32) : gM Int32 := gb (rR 8 3 x0) fun v1 => gb (aI 1 v1 x1) fun v2 => gb (f_X9_schemeSize v2) fun v3 => if v3 ≤ x2 then (gb (nn 8 x0) fun _ => gb (f_X9_say x0 58) fun _ => gb (nn 8 x0) fun _ => gb (f_X9_say x0 47) fun _ => gb (nn 8 x0) fun _ => gb (f_X9_say x0 47) fun _ => gb (nn 8 x0) fun _ => gb (f_X9_sizeOf x0 x1 0) fun v4 => if 0 < v4 then (f_X9_write_101  x0 x1) else (gb (nn 8 x0) fun _ => gb (f_X9_sizeOf x0 x1 1) fun v5 => if v5 ≤ 0 then (f_X9_write_134  x0 x1) else (f_X9_write_101  x0 x1))) else (gb (rR 8 3 x0) fun v6 => gb (aI 1 v6 x1) fun v7 => gb (f_X9_schemeByte v7 x2) fun v8 => gb (nn 8 x0) fun _ => gb (f_X9_say x0 v8) fun _ => rec32 x0 x1 (x2 + 1))
def f_X9_write_L32  : Nat → Option Nat → Int32 → Int32 → gM Int32
  | 0, _, _, _ => gno
  | n + 1, x0, x1, x2 => f_X9_write_32  (f_X9_write_L32  n) x0 x1 x2
def f_X9_write  (a0 : Option Nat) (a1 : Int32) : gM Int32 := gb (nn 8 a0) fun _ => gb (f_X9_has a0 a1) fun v1 => if v1 = 0 then (gp (-2)) else (gb (nn 8 a0) fun _ => gb (f_X9_writtenLength a0 a1) fun v2 => if v2 ≤ 300 then (gb (wI 8 1 a0 0) fun _ => f_X9_write_L32  gF a0 a1 0) else (gp (-3)))
section S_X9_write
variable {G : gX} {p : Program} {l : Launch} {e : Env} {s : State} {m : MethodId} {args : Array Value} {below : List Frame} {meth : Method} {c : Code} {mc ms : Nat} {y : Int32 × gS}
set_option maxHeartbeats 4000000 in
set_option maxRecDepth 100000 in
theorem w_X9_write_225 (C : gC G p s m args meth c cX9_write 3 RX9) (hr : meth.sig.returnType = (some .int))  (x0 : Option Nat) : gJ G p l e 5 116 mc ms s m args below meth c gri y 3 225 [(0, va_rf x0)] [] (f_X9_write_225  x0) := by
  have hx := C.1
  have hb := C.2.1
  intro σ H locs cells slots ls hf I hl
  unfold f_X9_write_225 at hf
  refine gw_aload_n hx hb dX9_write_225 rfl (lv_at hl 0 rfl) ?_
  refine gw_geti (k := 1) C I gcls_8 (by decide) rfl kw_195 dX9_write_226 hf (fun v1 hf => ?_)
  exact gw_iret C I hr dX9_write_229 hf
set_option maxHeartbeats 4000000 in
set_option maxRecDepth 100000 in
theorem w_X9_write_204 (C : gC G p s m args meth c cX9_write 3 RX9) (hr : meth.sig.returnType = (some .int))  (x0 : Option Nat) (x1 : Int32) : gJ G p l e 5 116 mc ms s m args below meth c gri y 3 204 [(0, va_rf x0), (1, .int x1)] [] (f_X9_write_204  x0 x1) := by
  have hx := C.1
  have hb := C.2.1
  intro σ H locs cells slots ls hf I hl
  unfold f_X9_write_204 at hf
  refine gw_aload_n hx hb dX9_write_204 rfl (lv_at hl 0 rfl) ?_
  refine gw_getr (k := 8) C I gcls_8 (by decide) rfl kw_172 dX9_write_205 hf (fun v1 hf => ?_)
  refine lv_iload_n hx hb dX9_write_208 rfl (lv_at hl 1 rfl) ?_
  refine gw_zald C I dX9_write_209 hf (fun v2 hf => ?_)
  refine lv_if_eq (tgt := 225) hx hb dX9_write_210 (by decide) (fun hq => ?_) (fun hq => ?_)
  · have hf := gift hq hf
    exact w_X9_write_225 C hr  x0 _ _ _ _ _ _ hf I (lv_sub hl [0] rfl)
  · have hf := giff hq hf
    refine gw_aload_n hx hb dX9_write_213 rfl (lv_at hl 0 rfl) ?_
    refine lv_bipush (v := 35) hx hb dX9_write_214 kc_b_35 ?_
    refine gw_callV (rest := []) C I hl.1 gcls_8 (m_X9_say G l x0 35) gl_RX9_287 gn_X9_say ⟨Nat.le_of_ble_eq_true rfl, Nat.le_of_ble_eq_true rfl⟩ rfl (gc4 (Nat.le_of_ble_eq_true rfl)) rfl dX9_write_216 hf (fun _ σ H locs cells slots I hf => ?_)
    refine W.eq (g2 := F0 m 219 ls []) rfl ?_
    refine gw_aload_n hx hb dX9_write_219 rfl (lv_at hl 0 rfl) ?_
    refine lv_iload_n hx hb dX9_write_220 rfl (lv_at hl 1 rfl) ?_
    refine lv_iconst (v := 5) hx hb dX9_write_221 kc_i_5 ?_
    refine gw_callV (rest := []) C I hl.1 gcls_8 (m_X9_sayPart G l x0 x1 5) gl_RX9_290 gn_X9_sayPart ⟨Nat.le_of_ble_eq_true rfl, Nat.le_of_ble_eq_true rfl⟩ rfl (gc4 (Nat.le_of_ble_eq_true rfl)) rfl dX9_write_222 hf (fun _ σ H locs cells slots I hf => ?_)
    refine W.eq (g2 := F0 m 225 ls []) rfl ?_
    exact w_X9_write_225 C hr  x0 _ _ _ _ _ _ hf I (lv_sub hl [0] rfl)
set_option maxHeartbeats 4000000 in
set_option maxRecDepth 100000 in
theorem w_X9_write_177 (C : gC G p s m args meth c cX9_write 3 RX9) (hr : meth.sig.returnType = (some .int))  (x0 : Option Nat) (x1 : Int32) : gJ G p l e 5 116 mc ms s m args below meth c gri y 3 177 [(0, va_rf x0), (1, .int x1)] [] (f_X9_write_177  x0 x1) := by
  have hx := C.1
  have hb := C.2.1
  intro σ H locs cells slots ls hf I hl
  unfold f_X9_write_177 at hf
  refine gw_aload_n hx hb dX9_write_177 rfl (lv_at hl 0 rfl) ?_
  refine lv_iload_n hx hb dX9_write_178 rfl (lv_at hl 1 rfl) ?_
  refine lv_iconst (v := 3) hx hb dX9_write_179 kc_i_3 ?_
  refine gw_callV (rest := []) C I hl.1 gcls_8 (m_X9_sayPart G l x0 x1 3) gl_RX9_290 gn_X9_sayPart ⟨Nat.le_of_ble_eq_true rfl, Nat.le_of_ble_eq_true rfl⟩ rfl (gc4 (Nat.le_of_ble_eq_true rfl)) rfl dX9_write_180 hf (fun _ σ H locs cells slots I hf => ?_)
  refine W.eq (g2 := F0 m 183 ls []) rfl ?_
  refine gw_aload_n hx hb dX9_write_183 rfl (lv_at hl 0 rfl) ?_
  refine gw_getr (k := 7) C I gcls_8 (by decide) rfl kw_171 dX9_write_184 hf (fun v1 hf => ?_)
  refine lv_iload_n hx hb dX9_write_187 rfl (lv_at hl 1 rfl) ?_
  refine gw_zald C I dX9_write_188 hf (fun v2 hf => ?_)
  refine lv_if_eq (tgt := 204) hx hb dX9_write_189 (by decide) (fun hq => ?_) (fun hq => ?_)
  · have hf := gift hq hf
    exact w_X9_write_204 C hr  x0 x1 _ _ _ _ _ _ hf I (lv_sub hl [0, 1] rfl)
  · have hf := giff hq hf
    refine gw_aload_n hx hb dX9_write_192 rfl (lv_at hl 0 rfl) ?_
    refine lv_bipush (v := 63) hx hb dX9_write_193 kc_b_63 ?_
    refine gw_callV (rest := []) C I hl.1 gcls_8 (m_X9_say G l x0 63) gl_RX9_287 gn_X9_say ⟨Nat.le_of_ble_eq_true rfl, Nat.le_of_ble_eq_true rfl⟩ rfl (gc4 (Nat.le_of_ble_eq_true rfl)) rfl dX9_write_195 hf (fun _ σ H locs cells slots I hf => ?_)
    refine W.eq (g2 := F0 m 198 ls []) rfl ?_
    refine gw_aload_n hx hb dX9_write_198 rfl (lv_at hl 0 rfl) ?_
    refine lv_iload_n hx hb dX9_write_199 rfl (lv_at hl 1 rfl) ?_
    refine lv_iconst (v := 4) hx hb dX9_write_200 kc_i_4 ?_
    refine gw_callV (rest := []) C I hl.1 gcls_8 (m_X9_sayPart G l x0 x1 4) gl_RX9_290 gn_X9_sayPart ⟨Nat.le_of_ble_eq_true rfl, Nat.le_of_ble_eq_true rfl⟩ rfl (gc4 (Nat.le_of_ble_eq_true rfl)) rfl dX9_write_201 hf (fun _ σ H locs cells slots I hf => ?_)
    refine W.eq (g2 := F0 m 204 ls []) rfl ?_
    exact w_X9_write_204 C hr  x0 x1 _ _ _ _ _ _ hf I (lv_sub hl [0, 1] rfl)
set_option maxHeartbeats 4000000 in
set_option maxRecDepth 100000 in
theorem w_X9_write_134 (C : gC G p s m args meth c cX9_write 3 RX9) (hr : meth.sig.returnType = (some .int))  (x0 : Option Nat) (x1 : Int32) : gJ G p l e 5 116 mc ms s m args below meth c gri y 3 134 [(0, va_rf x0), (1, .int x1)] [] (f_X9_write_134  x0 x1) := by
  have hx := C.1
  have hb := C.2.1
  intro σ H locs cells slots ls hf I hl
  unfold f_X9_write_134 at hf
  refine gw_aload_n hx hb dX9_write_134 rfl (lv_at hl 0 rfl) ?_
  refine lv_iload_n hx hb dX9_write_135 rfl (lv_at hl 1 rfl) ?_
  refine gw_callV (rest := []) C I hl.1 gcls_8 (m_X9_writeHost G l x0 x1) gl_RX9_281 gn_X9_writeHost ⟨Nat.le_of_ble_eq_true rfl, Nat.le_of_ble_eq_true rfl⟩ rfl (gc4 (Nat.le_of_ble_eq_true rfl)) rfl dX9_write_136 hf (fun _ σ H locs cells slots I hf => ?_)
  refine W.eq (g2 := F0 m 139 ls []) rfl ?_
  refine gw_aload_n hx hb dX9_write_139 rfl (lv_at hl 0 rfl) ?_
  refine gw_callV (rest := []) C I hl.1 gcls_8 (m_X9_sayWritten G l x0) gl_RX9_293 gn_X9_sayWritten ⟨Nat.le_of_ble_eq_true rfl, Nat.le_of_ble_eq_true rfl⟩ rfl (gc4 (Nat.le_of_ble_eq_true rfl)) rfl dX9_write_140 hf (fun _ σ H locs cells slots I hf => ?_)
  refine W.eq (g2 := F0 m 143 ls []) rfl ?_
  refine gw_aload_n hx hb dX9_write_143 rfl (lv_at hl 0 rfl) ?_
  refine gw_getr (k := 4) C I gcls_8 (by decide) rfl kw_168 dX9_write_144 hf (fun v1 hf => ?_)
  refine lv_iload_n hx hb dX9_write_147 rfl (lv_at hl 1 rfl) ?_
  refine gw_iald C I dX9_write_148 hf (fun v2 hf => ?_)
  refine lv_if_lt (tgt := 177) hx hb dX9_write_149 (by decide) (fun hq => ?_) (fun hq => ?_)
  · have hf := gift hq hf
    exact w_X9_write_177 C hr  x0 x1 _ _ _ _ _ _ hf I (lv_sub hl [0, 1] rfl)
  · have hf := giff hq hf
    refine gw_aload_n hx hb dX9_write_152 rfl (lv_at hl 0 rfl) ?_
    refine lv_bipush (v := 58) hx hb dX9_write_153 kc_b_58 ?_
    refine gw_callV (rest := []) C I hl.1 gcls_8 (m_X9_say G l x0 58) gl_RX9_287 gn_X9_say ⟨Nat.le_of_ble_eq_true rfl, Nat.le_of_ble_eq_true rfl⟩ rfl (gc4 (Nat.le_of_ble_eq_true rfl)) rfl dX9_write_155 hf (fun _ σ H locs cells slots I hf => ?_)
    refine W.eq (g2 := F0 m 158 ls []) rfl ?_
    refine gw_aload_n hx hb dX9_write_158 rfl (lv_at hl 0 rfl) ?_
    refine lv_iconst (v := 0) hx hb dX9_write_159 kc_i_0 ?_
    refine gw_puti (k := 19) C I gcls_8 (by decide) rfl kw_218 (Or.inl rfl) (by decide +kernel) dX9_write_160 hf (fun σ H locs I hf => ?_)
    refine gw_aload_n hx hb dX9_write_163 rfl (lv_at hl 0 rfl) ?_
    refine gw_aload_n hx hb dX9_write_164 rfl (lv_at hl 0 rfl) ?_
    refine gw_getr (k := 4) C I gcls_8 (by decide) rfl kw_168 dX9_write_165 hf (fun v3 hf => ?_)
    refine lv_iload_n hx hb dX9_write_168 rfl (lv_at hl 1 rfl) ?_
    refine gw_iald C I dX9_write_169 hf (fun v4 hf => ?_)
    refine gw_callV (rest := []) C I hl.1 gcls_8 (m_X9_putDecimal G l x0 v4) gl_RX9_272 gn_X9_putDecimal ⟨Nat.le_of_ble_eq_true rfl, Nat.le_of_ble_eq_true rfl⟩ rfl (gc4 (Nat.le_of_ble_eq_true rfl)) rfl dX9_write_170 hf (fun _ σ H locs cells slots I hf => ?_)
    refine W.eq (g2 := F0 m 173 ls []) rfl ?_
    refine gw_aload_n hx hb dX9_write_173 rfl (lv_at hl 0 rfl) ?_
    refine gw_callV (rest := []) C I hl.1 gcls_8 (m_X9_sayWritten G l x0) gl_RX9_293 gn_X9_sayWritten ⟨Nat.le_of_ble_eq_true rfl, Nat.le_of_ble_eq_true rfl⟩ rfl (gc4 (Nat.le_of_ble_eq_true rfl)) rfl dX9_write_174 hf (fun _ σ H locs cells slots I hf => ?_)
    refine W.eq (g2 := F0 m 177 ls []) rfl ?_
    exact w_X9_write_177 C hr  x0 x1 _ _ _ _ _ _ hf I (lv_sub hl [0, 1] rfl)
set_option maxHeartbeats 4000000 in
set_option maxRecDepth 100000 in
theorem w_X9_write_128 (C : gC G p s m args meth c cX9_write 3 RX9) (hr : meth.sig.returnType = (some .int))  (x0 : Option Nat) (x1 : Int32) : gJ G p l e 5 116 mc ms s m args below meth c gri y 3 128 [(0, va_rf x0), (1, .int x1)] [] (f_X9_write_128  x0 x1) := by
  have hx := C.1
  have hb := C.2.1
  intro σ H locs cells slots ls hf I hl
  unfold f_X9_write_128 at hf
  refine gw_aload_n hx hb dX9_write_128 rfl (lv_at hl 0 rfl) ?_
  refine lv_bipush (v := 64) hx hb dX9_write_129 kc_b_64 ?_
  refine gw_callV (rest := []) C I hl.1 gcls_8 (m_X9_say G l x0 64) gl_RX9_287 gn_X9_say ⟨Nat.le_of_ble_eq_true rfl, Nat.le_of_ble_eq_true rfl⟩ rfl (gc4 (Nat.le_of_ble_eq_true rfl)) rfl dX9_write_131 hf (fun _ σ H locs cells slots I hf => ?_)
  refine W.eq (g2 := F0 m 134 ls []) rfl ?_
  exact w_X9_write_134 C hr  x0 x1 _ _ _ _ _ _ hf I (lv_sub hl [0, 1] rfl)
set_option maxHeartbeats 4000000 in
set_option maxRecDepth 100000 in
theorem w_X9_write_101 (C : gC G p s m args meth c cX9_write 3 RX9) (hr : meth.sig.returnType = (some .int))  (x0 : Option Nat) (x1 : Int32) : gJ G p l e 5 116 mc ms s m args below meth c gri y 3 101 [(0, va_rf x0), (1, .int x1)] [] (f_X9_write_101  x0 x1) := by
  have hx := C.1
  have hb := C.2.1
  intro σ H locs cells slots ls hf I hl
  unfold f_X9_write_101 at hf
  refine gw_aload_n hx hb dX9_write_101 rfl (lv_at hl 0 rfl) ?_
  refine lv_iload_n hx hb dX9_write_102 rfl (lv_at hl 1 rfl) ?_
  refine lv_iconst (v := 0) hx hb dX9_write_103 kc_i_0 ?_
  refine gw_callV (rest := []) C I hl.1 gcls_8 (m_X9_sayPart G l x0 x1 0) gl_RX9_290 gn_X9_sayPart ⟨Nat.le_of_ble_eq_true rfl, Nat.le_of_ble_eq_true rfl⟩ rfl (gc4 (Nat.le_of_ble_eq_true rfl)) rfl dX9_write_104 hf (fun _ σ H locs cells slots I hf => ?_)
  refine W.eq (g2 := F0 m 107 ls []) rfl ?_
  refine gw_aload_n hx hb dX9_write_107 rfl (lv_at hl 0 rfl) ?_
  refine lv_iload_n hx hb dX9_write_108 rfl (lv_at hl 1 rfl) ?_
  refine lv_iconst (v := 1) hx hb dX9_write_109 kc_i_1 ?_
  refine gw_callV (rest := []) C I hl.1 gcls_8 (m_X9_sizeOf G l x0 x1 1) gl_RX9_107 gn_X9_sizeOf ⟨Nat.le_of_ble_eq_true rfl, Nat.le_of_ble_eq_true rfl⟩ rfl (gc4 (Nat.le_of_ble_eq_true rfl)) rfl dX9_write_110 hf (fun v1 σ H locs cells slots I hf => ?_)
  refine W.eq (g2 := F0 m 113 ls [.int v1]) rfl ?_
  refine lv_if_le (tgt := 128) hx hb dX9_write_113 (by decide) (fun hq => ?_) (fun hq => ?_)
  · have hf := gift hq hf
    exact w_X9_write_128 C hr  x0 x1 _ _ _ _ _ _ hf I (lv_sub hl [0, 1] rfl)
  · have hf := giff hq hf
    refine gw_aload_n hx hb dX9_write_116 rfl (lv_at hl 0 rfl) ?_
    refine lv_bipush (v := 58) hx hb dX9_write_117 kc_b_58 ?_
    refine gw_callV (rest := []) C I hl.1 gcls_8 (m_X9_say G l x0 58) gl_RX9_287 gn_X9_say ⟨Nat.le_of_ble_eq_true rfl, Nat.le_of_ble_eq_true rfl⟩ rfl (gc4 (Nat.le_of_ble_eq_true rfl)) rfl dX9_write_119 hf (fun _ σ H locs cells slots I hf => ?_)
    refine W.eq (g2 := F0 m 122 ls []) rfl ?_
    refine gw_aload_n hx hb dX9_write_122 rfl (lv_at hl 0 rfl) ?_
    refine lv_iload_n hx hb dX9_write_123 rfl (lv_at hl 1 rfl) ?_
    refine lv_iconst (v := 1) hx hb dX9_write_124 kc_i_1 ?_
    refine gw_callV (rest := []) C I hl.1 gcls_8 (m_X9_sayPart G l x0 x1 1) gl_RX9_290 gn_X9_sayPart ⟨Nat.le_of_ble_eq_true rfl, Nat.le_of_ble_eq_true rfl⟩ rfl (gc4 (Nat.le_of_ble_eq_true rfl)) rfl dX9_write_125 hf (fun _ σ H locs cells slots I hf => ?_)
    refine W.eq (g2 := F0 m 128 ls []) rfl ?_
    exact w_X9_write_128 C hr  x0 x1 _ _ _ _ _ _ hf I (lv_sub hl [0, 1] rfl)
set_option maxHeartbeats 4000000 in
set_option maxRecDepth 100000 in
theorem w_X9_write_32 (C : gC G p s m args meth c cX9_write 3 RX9) (hr : meth.sig.returnType = (some .int)) {rec32 : Option Nat → Int32 → Int32 → gM Int32} (hrec32 : ∀ (x0 : Option Nat) (x1 : Int32) (x2 : Int32), gJ G p l e 5 116 mc ms s m args below meth c gri y 3 32 [(0, va_rf x0), (1, .int x1), (2, .int x2)] [] (rec32 x0 x1 x2)) (x0 : Option Nat) (x1 : Int32) (x2 : Int32) : gJ G p l e 5 116 mc ms s m args below meth c gri y 3 32 [(0, va_rf x0), (1, .int x1), (2, .int x2)] [] (f_X9_write_32 rec32 x0 x1 x2) := by
  have hx := C.1
  have hb := C.2.1
  intro σ H locs cells slots ls hf I hl
  unfold f_X9_write_32 at hf
  refine lv_iload_n hx hb dX9_write_32 rfl (lv_at hl 2 rfl) ?_
  refine gw_aload_n hx hb dX9_write_33 rfl (lv_at hl 0 rfl) ?_
  refine gw_getr (k := 3) C I gcls_8 (by decide) rfl kw_167 dX9_write_34 hf (fun v1 hf => ?_)
  refine lv_iload_n hx hb dX9_write_37 rfl (lv_at hl 1 rfl) ?_
  refine gw_iald C I dX9_write_38 hf (fun v2 hf => ?_)
  refine gw_callS (rest := [.int x2]) C I hl.1 (m_X9_schemeSize G l v2) gl_RX9_148 kw_199 ⟨Nat.le_of_ble_eq_true rfl, Nat.le_of_ble_eq_true rfl⟩ rfl (gc4 (Nat.le_of_ble_eq_true rfl)) rfl dX9_write_39 hf (fun v3 σ H locs cells slots I hf => ?_)
  refine W.eq (g2 := F0 m 42 ls [.int v3, .int x2]) rfl ?_
  refine lv_icmp_ge (tgt := 65) hx hb dX9_write_42 (by decide) (fun hq => ?_) (fun hq => ?_)
  · have hf := gift hq hf
    refine gw_aload_n hx hb dX9_write_65 rfl (lv_at hl 0 rfl) ?_
    refine lv_bipush (v := 58) hx hb dX9_write_66 kc_b_58 ?_
    refine gw_callV (rest := []) C I hl.1 gcls_8 (m_X9_say G l x0 58) gl_RX9_287 gn_X9_say ⟨Nat.le_of_ble_eq_true rfl, Nat.le_of_ble_eq_true rfl⟩ rfl (gc4 (Nat.le_of_ble_eq_true rfl)) rfl dX9_write_68 hf (fun _ σ H locs cells slots I hf => ?_)
    refine W.eq (g2 := F0 m 71 ls []) rfl ?_
    refine gw_aload_n hx hb dX9_write_71 rfl (lv_at hl 0 rfl) ?_
    refine lv_bipush (v := 47) hx hb dX9_write_72 kc_b_47 ?_
    refine gw_callV (rest := []) C I hl.1 gcls_8 (m_X9_say G l x0 47) gl_RX9_287 gn_X9_say ⟨Nat.le_of_ble_eq_true rfl, Nat.le_of_ble_eq_true rfl⟩ rfl (gc4 (Nat.le_of_ble_eq_true rfl)) rfl dX9_write_74 hf (fun _ σ H locs cells slots I hf => ?_)
    refine W.eq (g2 := F0 m 77 ls []) rfl ?_
    refine gw_aload_n hx hb dX9_write_77 rfl (lv_at hl 0 rfl) ?_
    refine lv_bipush (v := 47) hx hb dX9_write_78 kc_b_47 ?_
    refine gw_callV (rest := []) C I hl.1 gcls_8 (m_X9_say G l x0 47) gl_RX9_287 gn_X9_say ⟨Nat.le_of_ble_eq_true rfl, Nat.le_of_ble_eq_true rfl⟩ rfl (gc4 (Nat.le_of_ble_eq_true rfl)) rfl dX9_write_80 hf (fun _ σ H locs cells slots I hf => ?_)
    refine W.eq (g2 := F0 m 83 ls []) rfl ?_
    refine gw_aload_n hx hb dX9_write_83 rfl (lv_at hl 0 rfl) ?_
    refine lv_iload_n hx hb dX9_write_84 rfl (lv_at hl 1 rfl) ?_
    refine lv_iconst (v := 0) hx hb dX9_write_85 kc_i_0 ?_
    refine gw_callV (rest := []) C I hl.1 gcls_8 (m_X9_sizeOf G l x0 x1 0) gl_RX9_107 gn_X9_sizeOf ⟨Nat.le_of_ble_eq_true rfl, Nat.le_of_ble_eq_true rfl⟩ rfl (gc4 (Nat.le_of_ble_eq_true rfl)) rfl dX9_write_86 hf (fun v4 σ H locs cells slots I hf => ?_)
    refine W.eq (g2 := F0 m 89 ls [.int v4]) rfl ?_
    refine lv_if_gt (tgt := 101) hx hb dX9_write_89 (by decide) (fun hq => ?_) (fun hq => ?_)
    · have hf := gift hq hf
      exact w_X9_write_101 C hr  x0 x1 _ _ _ _ _ _ hf I (lv_sub hl [0, 1] rfl)
    · have hf := giff hq hf
      refine gw_aload_n hx hb dX9_write_92 rfl (lv_at hl 0 rfl) ?_
      refine lv_iload_n hx hb dX9_write_93 rfl (lv_at hl 1 rfl) ?_
      refine lv_iconst (v := 1) hx hb dX9_write_94 kc_i_1 ?_
      refine gw_callV (rest := []) C I hl.1 gcls_8 (m_X9_sizeOf G l x0 x1 1) gl_RX9_107 gn_X9_sizeOf ⟨Nat.le_of_ble_eq_true rfl, Nat.le_of_ble_eq_true rfl⟩ rfl (gc4 (Nat.le_of_ble_eq_true rfl)) rfl dX9_write_95 hf (fun v5 σ H locs cells slots I hf => ?_)
      refine W.eq (g2 := F0 m 98 ls [.int v5]) rfl ?_
      refine lv_if_le (tgt := 134) hx hb dX9_write_98 (by decide) (fun hq => ?_) (fun hq => ?_)
      · have hf := gift hq hf
        exact w_X9_write_134 C hr  x0 x1 _ _ _ _ _ _ hf I (lv_sub hl [0, 1] rfl)
      · have hf := giff hq hf
        exact w_X9_write_101 C hr  x0 x1 _ _ _ _ _ _ hf I (lv_sub hl [0, 1] rfl)
  · have hf := giff hq hf
    refine gw_aload_n hx hb dX9_write_45 rfl (lv_at hl 0 rfl) ?_
    refine gw_aload_n hx hb dX9_write_46 rfl (lv_at hl 0 rfl) ?_
    refine gw_getr (k := 3) C I gcls_8 (by decide) rfl kw_167 dX9_write_47 hf (fun v6 hf => ?_)
    refine lv_iload_n hx hb dX9_write_50 rfl (lv_at hl 1 rfl) ?_
    refine gw_iald C I dX9_write_51 hf (fun v7 hf => ?_)
    refine lv_iload_n hx hb dX9_write_52 rfl (lv_at hl 2 rfl) ?_
    refine gw_callS (rest := [va_rf x0]) C I hl.1 (m_X9_schemeByte G l v7 x2) gl_RX9_154 kw_200 ⟨Nat.le_of_ble_eq_true rfl, Nat.le_of_ble_eq_true rfl⟩ rfl (gc4 (Nat.le_of_ble_eq_true rfl)) rfl dX9_write_53 hf (fun v8 σ H locs cells slots I hf => ?_)
    refine W.eq (g2 := F0 m 56 ls [.int v8, va_rf x0]) rfl ?_
    refine gw_callV (rest := []) C I hl.1 gcls_8 (m_X9_say G l x0 v8) gl_RX9_287 gn_X9_say ⟨Nat.le_of_ble_eq_true rfl, Nat.le_of_ble_eq_true rfl⟩ rfl (gc4 (Nat.le_of_ble_eq_true rfl)) rfl dX9_write_56 hf (fun _ σ H locs cells slots I hf => ?_)
    refine W.eq (g2 := F0 m 59 ls []) rfl ?_
    refine lv_iinc (v := x2 + 1) (lv' := [(2, .int (x2 + 1)), (0, va_rf x0), (1, .int x1)]) hx hb dX9_write_59 hl (k := 2) rfl rfl (by decide) rfl (fun ls hl => ?_)
    refine lv_goto (tgt := 32) hx hb dX9_write_62 (by decide) ?_
    exact hrec32 x0 x1 (x2 + 1) _ _ _ _ _ _ hf I (lv_sub hl [1, 2, 0] rfl)
theorem w_X9_write_L32 (C : gC G p s m args meth c cX9_write 3 RX9) (hr : meth.sig.returnType = (some .int))  : ∀ (n : Nat) (x0 : Option Nat) (x1 : Int32) (x2 : Int32), gJ G p l e 5 116 mc ms s m args below meth c gri y 3 32 [(0, va_rf x0), (1, .int x1), (2, .int x2)] [] (f_X9_write_L32  n x0 x1 x2) := by
  intro n
  induction n with
  | zero => intro x0 x1 x2 σ H locs cells slots ls hf; exact (gno_some hf).elim
  | succ n ih => intro x0 x1 x2; exact w_X9_write_32 C hr  ih x0 x1 x2
set_option maxHeartbeats 4000000 in
set_option maxRecDepth 100000 in
theorem w_X9_write_0 (C : gC G p s m args meth c cX9_write 3 RX9) (hr : meth.sig.returnType = (some .int))  (a0 : Option Nat) (a1 : Int32) : gJ G p l e 5 116 mc ms s m args below meth c gri y 3 0 [(0, va_rf a0), (1, .int a1)] [] (f_X9_write  a0 a1) := by
  have hx := C.1
  have hb := C.2.1
  intro σ H locs cells slots ls hf I hl
  unfold f_X9_write at hf
  refine gw_aload_n hx hb dX9_write_0 rfl (lv_at hl 0 rfl) ?_
  refine lv_iload_n hx hb dX9_write_1 rfl (lv_at hl 1 rfl) ?_
  refine gw_callV (rest := []) C I hl.1 gcls_8 (m_X9_has G l a0 a1) gl_RX9_157 gn_X9_has ⟨Nat.le_of_ble_eq_true rfl, Nat.le_of_ble_eq_true rfl⟩ rfl (gc4 (Nat.le_of_ble_eq_true rfl)) rfl dX9_write_2 hf (fun v1 σ H locs cells slots I hf => ?_)
  refine W.eq (g2 := F0 m 5 ls [.int v1]) rfl ?_
  refine lv_if_ne (tgt := 11) hx hb dX9_write_5 (by decide) (fun hq => ?_) (fun hq => ?_)
  · have hf := giff hq hf
    refine gw_aload_n hx hb dX9_write_11 rfl (lv_at hl 0 rfl) ?_
    refine lv_iload_n hx hb dX9_write_12 rfl (lv_at hl 1 rfl) ?_
    refine gw_callV (rest := []) C I hl.1 gcls_8 (m_X9_writtenLength G l a0 a1) gl_RX9_170 gn_X9_writtenLength ⟨Nat.le_of_ble_eq_true rfl, Nat.le_of_ble_eq_true rfl⟩ rfl (gc4 (Nat.le_of_ble_eq_true rfl)) rfl dX9_write_13 hf (fun v2 σ H locs cells slots I hf => ?_)
    refine W.eq (g2 := F0 m 16 ls [.int v2]) rfl ?_
    refine lv_sipush (v := 300) hx hb dX9_write_16 kc_s_300 ?_
    refine lv_icmp_le (tgt := 25) hx hb dX9_write_19 (by decide) (fun hq => ?_) (fun hq => ?_)
    · have hf := gift hq hf
      refine gw_aload_n hx hb dX9_write_25 rfl (lv_at hl 0 rfl) ?_
      refine lv_iconst (v := 0) hx hb dX9_write_26 kc_i_0 ?_
      refine gw_puti (k := 1) C I gcls_8 (by decide) rfl kw_195 (Or.inl rfl) (by decide +kernel) dX9_write_27 hf (fun σ H locs I hf => ?_)
      refine lv_iconst (v := 0) hx hb dX9_write_30 kc_i_0 ?_
      refine lv_istore_n (lv' := [(2, .int 0), (0, va_rf a0), (1, .int a1)]) hx hb dX9_write_31 rfl hl (by decide) rfl (fun ls hl => ?_)
      exact w_X9_write_L32 C hr  _ a0 a1 0 _ _ _ _ _ _ hf I (lv_sub hl [1, 2, 0] rfl)
    · have hf := giff hq hf
      refine lv_bipush (v := (-3)) hx hb dX9_write_22 kc_b_m3 ?_
      exact gw_iret C I hr dX9_write_24 hf
  · have hf := gift hq hf
    refine lv_bipush (v := (-2)) hx hb dX9_write_8 kc_b_m2 ?_
    exact gw_iret C I hr dX9_write_10 hf
end S_X9_write
theorem m_X9_write (G : gX) (l : Launch) (a0 : Option Nat) (a1 : Int32) : gMet G l yX9_write cX9_write 3 (some .int) 5 116 [va_rf a0, .int a1] gri (f_X9_write a0 a1) := by
  refine gMet_of (by decide) ?_
  intro σ y p e s m below meth c mc ms hf C hr hnm I
  obtain ⟨ls, e1, hl⟩ := gentry m [va_rf a0, .int a1] 3 [(0, va_rf a0), (1, .int a1)] (by simp [lg_sl, grc, gcat_i, gcat_l]) (by simp [lv_args, grc, gcat_i, gcat_l])
  rw [e1]
  exact w_X9_write_0 C hr a0 a1 _ _ _ _ _ _ hf I hl
def f_X9_size  (a0 : Option Nat) (a1 : Int32) (a2 : Int32) : gM Int32 := gb (nn 8 a0) fun _ => gb (f_X9_has a0 a1) fun v1 => if v1 = 0 then (gp (-2)) else (gb (f_X9_isIn a2 0 6) fun v2 => if v2 = 0 then (gp (-2)) else (if a2 = 0 then (gb (rR 8 3 a0) fun v3 => gb (aI 1 v3 a1) fun v4 => gb (f_X9_schemeSize v4) fun v5 => gp v5) else if a2 = 1 then (gb (nn 8 a0) fun _ => gb (f_X9_sizeOf a0 a1 0) fun v6 => gp v6) else if a2 = 2 then (gb (nn 8 a0) fun _ => gb (f_X9_sizeOf a0 a1 1) fun v7 => gp v7) else if a2 = 3 then (gb (nn 8 a0) fun _ => gb (f_X9_writeHost a0 a1) fun _ => gb (rI 8 19 a0) fun v8 => gp v8) else if a2 = 4 then (gb (nn 8 a0) fun _ => gb (f_X9_sizeOf a0 a1 3) fun v9 => gp v9) else if a2 = 5 then (gb (rR 8 7 a0) fun v10 => gb (aI 2 v10 a1) fun v11 => if v11 = 0 then (gp (-1)) else (gb (nn 8 a0) fun _ => gb (f_X9_sizeOf a0 a1 4) fun v12 => gp v12)) else (gb (rR 8 8 a0) fun v13 => gb (aI 2 v13 a1) fun v14 => if v14 = 0 then (gp (-1)) else (gb (nn 8 a0) fun _ => gb (f_X9_sizeOf a0 a1 5) fun v15 => gp v15))))
section S_X9_size
variable {G : gX} {p : Program} {l : Launch} {e : Env} {s : State} {m : MethodId} {args : Array Value} {below : List Frame} {meth : Method} {c : Code} {mc ms : Nat} {y : Int32 × gS}
set_option maxHeartbeats 4000000 in
set_option maxRecDepth 100000 in
theorem w_X9_size_0 (C : gC G p s m args meth c cX9_size 3 RX9) (hr : meth.sig.returnType = (some .int))  (a0 : Option Nat) (a1 : Int32) (a2 : Int32) : gJ G p l e 4 92 mc ms s m args below meth c gri y 3 0 [(0, va_rf a0), (1, .int a1), (2, .int a2)] [] (f_X9_size  a0 a1 a2) := by
  have hx := C.1
  have hb := C.2.1
  intro σ H locs cells slots ls hf I hl
  unfold f_X9_size at hf
  refine gw_aload_n hx hb dX9_size_0 rfl (lv_at hl 0 rfl) ?_
  refine lv_iload_n hx hb dX9_size_1 rfl (lv_at hl 1 rfl) ?_
  refine gw_callV (rest := []) C I hl.1 gcls_8 (m_X9_has G l a0 a1) gl_RX9_157 gn_X9_has ⟨Nat.le_of_ble_eq_true rfl, Nat.le_of_ble_eq_true rfl⟩ rfl (gc4 (Nat.le_of_ble_eq_true rfl)) rfl dX9_size_2 hf (fun v1 σ H locs cells slots I hf => ?_)
  refine W.eq (g2 := F0 m 5 ls [.int v1]) rfl ?_
  refine lv_if_eq (tgt := 18) hx hb dX9_size_5 (by decide) (fun hq => ?_) (fun hq => ?_)
  · have hf := gift hq hf
    refine lv_bipush (v := (-2)) hx hb dX9_size_18 kc_b_m2 ?_
    exact gw_iret C I hr dX9_size_20 hf
  · have hf := giff hq hf
    refine lv_iload_n hx hb dX9_size_8 rfl (lv_at hl 2 rfl) ?_
    refine lv_iconst (v := 0) hx hb dX9_size_9 kc_i_0 ?_
    refine lv_bipush (v := 6) hx hb dX9_size_10 kc_b_6 ?_
    refine gw_callS (rest := []) C I hl.1 (m_X9_isIn G l a2 0 6) gl_RX9_91 kw_192 ⟨Nat.le_of_ble_eq_true rfl, Nat.le_of_ble_eq_true rfl⟩ rfl (gc4 (Nat.le_of_ble_eq_true rfl)) rfl dX9_size_12 hf (fun v2 σ H locs cells slots I hf => ?_)
    refine W.eq (g2 := F0 m 15 ls [.int v2]) rfl ?_
    refine lv_if_ne (tgt := 21) hx hb dX9_size_15 (by decide) (fun hq => ?_) (fun hq => ?_)
    · have hf := giff hq hf
      refine lv_iload_n hx hb dX9_size_21 rfl (lv_at hl 2 rfl) ?_
      by_cases hq0 : a2 = 0
      · have hf := gift hq0 hf
        refine gw_sw (tgt := 60) hx hb dX9_size_22 hq0 (by decide) (by decide) rfl (by decide) ?_
        refine gw_aload_n hx hb dX9_size_60 rfl (lv_at hl 0 rfl) ?_
        refine gw_getr (k := 3) C I gcls_8 (by decide) rfl kw_167 dX9_size_61 hf (fun v3 hf => ?_)
        refine lv_iload_n hx hb dX9_size_64 rfl (lv_at hl 1 rfl) ?_
        refine gw_iald C I dX9_size_65 hf (fun v4 hf => ?_)
        refine gw_callS (rest := []) C I hl.1 (m_X9_schemeSize G l v4) gl_RX9_148 kw_199 ⟨Nat.le_of_ble_eq_true rfl, Nat.le_of_ble_eq_true rfl⟩ rfl (gc4 (Nat.le_of_ble_eq_true rfl)) rfl dX9_size_66 hf (fun v5 σ H locs cells slots I hf => ?_)
        refine W.eq (g2 := F0 m 69 ls [.int v5]) rfl ?_
        exact gw_iret C I hr dX9_size_69 hf
      have hf := giff hq0 hf
      by_cases hq1 : a2 = 1
      · have hf := gift hq1 hf
        refine gw_sw (tgt := 70) hx hb dX9_size_22 hq1 (by decide) (by decide) rfl (by decide) ?_
        refine gw_aload_n hx hb dX9_size_70 rfl (lv_at hl 0 rfl) ?_
        refine lv_iload_n hx hb dX9_size_71 rfl (lv_at hl 1 rfl) ?_
        refine lv_iconst (v := 0) hx hb dX9_size_72 kc_i_0 ?_
        refine gw_callV (rest := []) C I hl.1 gcls_8 (m_X9_sizeOf G l a0 a1 0) gl_RX9_107 gn_X9_sizeOf ⟨Nat.le_of_ble_eq_true rfl, Nat.le_of_ble_eq_true rfl⟩ rfl (gc4 (Nat.le_of_ble_eq_true rfl)) rfl dX9_size_73 hf (fun v6 σ H locs cells slots I hf => ?_)
        refine W.eq (g2 := F0 m 76 ls [.int v6]) rfl ?_
        exact gw_iret C I hr dX9_size_76 hf
      have hf := giff hq1 hf
      by_cases hq2 : a2 = 2
      · have hf := gift hq2 hf
        refine gw_sw (tgt := 77) hx hb dX9_size_22 hq2 (by decide) (by decide) rfl (by decide) ?_
        refine gw_aload_n hx hb dX9_size_77 rfl (lv_at hl 0 rfl) ?_
        refine lv_iload_n hx hb dX9_size_78 rfl (lv_at hl 1 rfl) ?_
        refine lv_iconst (v := 1) hx hb dX9_size_79 kc_i_1 ?_
        refine gw_callV (rest := []) C I hl.1 gcls_8 (m_X9_sizeOf G l a0 a1 1) gl_RX9_107 gn_X9_sizeOf ⟨Nat.le_of_ble_eq_true rfl, Nat.le_of_ble_eq_true rfl⟩ rfl (gc4 (Nat.le_of_ble_eq_true rfl)) rfl dX9_size_80 hf (fun v7 σ H locs cells slots I hf => ?_)
        refine W.eq (g2 := F0 m 83 ls [.int v7]) rfl ?_
        exact gw_iret C I hr dX9_size_83 hf
      have hf := giff hq2 hf
      by_cases hq3 : a2 = 3
      · have hf := gift hq3 hf
        refine gw_sw (tgt := 84) hx hb dX9_size_22 hq3 (by decide) (by decide) rfl (by decide) ?_
        refine gw_aload_n hx hb dX9_size_84 rfl (lv_at hl 0 rfl) ?_
        refine lv_iload_n hx hb dX9_size_85 rfl (lv_at hl 1 rfl) ?_
        refine gw_callV (rest := []) C I hl.1 gcls_8 (m_X9_writeHost G l a0 a1) gl_RX9_281 gn_X9_writeHost ⟨Nat.le_of_ble_eq_true rfl, Nat.le_of_ble_eq_true rfl⟩ rfl (gc4 (Nat.le_of_ble_eq_true rfl)) rfl dX9_size_86 hf (fun _ σ H locs cells slots I hf => ?_)
        refine W.eq (g2 := F0 m 89 ls []) rfl ?_
        refine gw_aload_n hx hb dX9_size_89 rfl (lv_at hl 0 rfl) ?_
        refine gw_geti (k := 19) C I gcls_8 (by decide) rfl kw_218 dX9_size_90 hf (fun v8 hf => ?_)
        exact gw_iret C I hr dX9_size_93 hf
      have hf := giff hq3 hf
      by_cases hq4 : a2 = 4
      · have hf := gift hq4 hf
        refine gw_sw (tgt := 94) hx hb dX9_size_22 hq4 (by decide) (by decide) rfl (by decide) ?_
        refine gw_aload_n hx hb dX9_size_94 rfl (lv_at hl 0 rfl) ?_
        refine lv_iload_n hx hb dX9_size_95 rfl (lv_at hl 1 rfl) ?_
        refine lv_iconst (v := 3) hx hb dX9_size_96 kc_i_3 ?_
        refine gw_callV (rest := []) C I hl.1 gcls_8 (m_X9_sizeOf G l a0 a1 3) gl_RX9_107 gn_X9_sizeOf ⟨Nat.le_of_ble_eq_true rfl, Nat.le_of_ble_eq_true rfl⟩ rfl (gc4 (Nat.le_of_ble_eq_true rfl)) rfl dX9_size_97 hf (fun v9 σ H locs cells slots I hf => ?_)
        refine W.eq (g2 := F0 m 100 ls [.int v9]) rfl ?_
        exact gw_iret C I hr dX9_size_100 hf
      have hf := giff hq4 hf
      by_cases hq5 : a2 = 5
      · have hf := gift hq5 hf
        refine gw_sw (tgt := 101) hx hb dX9_size_22 hq5 (by decide) (by decide) rfl (by decide) ?_
        refine gw_aload_n hx hb dX9_size_101 rfl (lv_at hl 0 rfl) ?_
        refine gw_getr (k := 7) C I gcls_8 (by decide) rfl kw_171 dX9_size_102 hf (fun v10 hf => ?_)
        refine lv_iload_n hx hb dX9_size_105 rfl (lv_at hl 1 rfl) ?_
        refine gw_zald C I dX9_size_106 hf (fun v11 hf => ?_)
        refine lv_if_eq (tgt := 119) hx hb dX9_size_107 (by decide) (fun hq => ?_) (fun hq => ?_)
        · have hf := gift hq hf
          refine lv_iconst (v := (-1)) hx hb dX9_size_119 kc_i_m1 ?_
          exact gw_iret C I hr dX9_size_120 hf
        · have hf := giff hq hf
          refine gw_aload_n hx hb dX9_size_110 rfl (lv_at hl 0 rfl) ?_
          refine lv_iload_n hx hb dX9_size_111 rfl (lv_at hl 1 rfl) ?_
          refine lv_iconst (v := 4) hx hb dX9_size_112 kc_i_4 ?_
          refine gw_callV (rest := []) C I hl.1 gcls_8 (m_X9_sizeOf G l a0 a1 4) gl_RX9_107 gn_X9_sizeOf ⟨Nat.le_of_ble_eq_true rfl, Nat.le_of_ble_eq_true rfl⟩ rfl (gc4 (Nat.le_of_ble_eq_true rfl)) rfl dX9_size_113 hf (fun v12 σ H locs cells slots I hf => ?_)
          refine W.eq (g2 := F0 m 116 ls [.int v12]) rfl ?_
          refine lv_goto (tgt := 120) hx hb dX9_size_116 (by decide) ?_
          exact gw_iret C I hr dX9_size_120 hf
      have hf := giff hq5 hf
      refine lv_tableOut (tgt := 121) hx hb dX9_size_22 (by have := lv_neT hq0 (a := 0) (by decide); have := lv_neT hq1 (a := 1) (by decide); have := lv_neT hq2 (a := 2) (by decide); have := lv_neT hq3 (a := 3) (by decide); have := lv_neT hq4 (a := 4) (by decide); have := lv_neT hq5 (a := 5) (by decide); omega) (by decide) ?_
      refine gw_aload_n hx hb dX9_size_121 rfl (lv_at hl 0 rfl) ?_
      refine gw_getr (k := 8) C I gcls_8 (by decide) rfl kw_172 dX9_size_122 hf (fun v13 hf => ?_)
      refine lv_iload_n hx hb dX9_size_125 rfl (lv_at hl 1 rfl) ?_
      refine gw_zald C I dX9_size_126 hf (fun v14 hf => ?_)
      refine lv_if_eq (tgt := 139) hx hb dX9_size_127 (by decide) (fun hq => ?_) (fun hq => ?_)
      · have hf := gift hq hf
        refine lv_iconst (v := (-1)) hx hb dX9_size_139 kc_i_m1 ?_
        exact gw_iret C I hr dX9_size_140 hf
      · have hf := giff hq hf
        refine gw_aload_n hx hb dX9_size_130 rfl (lv_at hl 0 rfl) ?_
        refine lv_iload_n hx hb dX9_size_131 rfl (lv_at hl 1 rfl) ?_
        refine lv_iconst (v := 5) hx hb dX9_size_132 kc_i_5 ?_
        refine gw_callV (rest := []) C I hl.1 gcls_8 (m_X9_sizeOf G l a0 a1 5) gl_RX9_107 gn_X9_sizeOf ⟨Nat.le_of_ble_eq_true rfl, Nat.le_of_ble_eq_true rfl⟩ rfl (gc4 (Nat.le_of_ble_eq_true rfl)) rfl dX9_size_133 hf (fun v15 σ H locs cells slots I hf => ?_)
        refine W.eq (g2 := F0 m 136 ls [.int v15]) rfl ?_
        refine lv_goto (tgt := 140) hx hb dX9_size_136 (by decide) ?_
        exact gw_iret C I hr dX9_size_140 hf
    · have hf := gift hq hf
      refine lv_bipush (v := (-2)) hx hb dX9_size_18 kc_b_m2 ?_
      exact gw_iret C I hr dX9_size_20 hf
end S_X9_size
theorem m_X9_size (G : gX) (l : Launch) (a0 : Option Nat) (a1 : Int32) (a2 : Int32) : gMet G l yX9_size cX9_size 3 (some .int) 4 92 [va_rf a0, .int a1, .int a2] gri (f_X9_size a0 a1 a2) := by
  refine gMet_of (by decide) ?_
  intro σ y p e s m below meth c mc ms hf C hr hnm I
  obtain ⟨ls, e1, hl⟩ := gentry m [va_rf a0, .int a1, .int a2] 3 [(0, va_rf a0), (1, .int a1), (2, .int a2)] (by simp [lg_sl, grc, gcat_i, gcat_l]) (by simp [lv_args, grc, gcat_i, gcat_l])
  rw [e1]
  exact w_X9_size_0 C hr a0 a1 a2 _ _ _ _ _ _ hf I hl
