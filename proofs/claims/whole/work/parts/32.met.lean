theorem dX9_readRelative_0 : decode cX9_readRelative 0 = .ok (.aload_n 0, 1) := by decide +kernel
theorem dX9_readRelative_1 : decode cX9_readRelative 1 = .ok (.iload_n 1, 1) := by decide +kernel
theorem dX9_readRelative_2 : decode cX9_readRelative 2 = .ok (.invokevirtual 151, 3) := by decide +kernel
theorem dX9_readRelative_5 : decode cX9_readRelative 5 = .ok (.istore_n 3, 1) := by decide +kernel
theorem dX9_readRelative_6 : decode cX9_readRelative 6 = .ok (.iload_n 3, 1) := by decide +kernel
theorem dX9_readRelative_7 : decode cX9_readRelative 7 = .ok (.invokestatic 188, 3) := by decide +kernel
theorem dX9_readRelative_10 : decode cX9_readRelative 10 = .ok (.ifCond .eq 24, 3) := by decide +kernel
theorem dX9_readRelative_13 : decode cX9_readRelative 13 = .ok (.aload_n 0, 1) := by decide +kernel
theorem dX9_readRelative_14 : decode cX9_readRelative 14 = .ok (.iload_n 1, 1) := by decide +kernel
theorem dX9_readRelative_15 : decode cX9_readRelative 15 = .ok (.iconst 1, 1) := by decide +kernel
theorem dX9_readRelative_16 : decode cX9_readRelative 16 = .ok (.iadd, 1) := by decide +kernel
theorem dX9_readRelative_17 : decode cX9_readRelative 17 = .ok (.invokevirtual 151, 3) := by decide +kernel
theorem dX9_readRelative_20 : decode cX9_readRelative 20 = .ok (.invokestatic 188, 3) := by decide +kernel
theorem dX9_readRelative_23 : decode cX9_readRelative 23 = .ok (.ifCond .eq 11, 3) := by decide +kernel
theorem dX9_readRelative_26 : decode cX9_readRelative 26 = .ok (.aload_n 0, 1) := by decide +kernel
theorem dX9_readRelative_27 : decode cX9_readRelative 27 = .ok (.iload_n 1, 1) := by decide +kernel
theorem dX9_readRelative_28 : decode cX9_readRelative 28 = .ok (.iconst 1, 1) := by decide +kernel
theorem dX9_readRelative_29 : decode cX9_readRelative 29 = .ok (.iadd, 1) := by decide +kernel
theorem dX9_readRelative_30 : decode cX9_readRelative 30 = .ok (.invokevirtual 185, 3) := by decide +kernel
theorem dX9_readRelative_33 : decode cX9_readRelative 33 = .ok (.return_, 1) := by decide +kernel
theorem dX9_readRelative_34 : decode cX9_readRelative 34 = .ok (.aload_n 0, 1) := by decide +kernel
theorem dX9_readRelative_35 : decode cX9_readRelative 35 = .ok (.iload_n 2, 1) := by decide +kernel
theorem dX9_readRelative_36 : decode cX9_readRelative 36 = .ok (.iconst 4, 1) := by decide +kernel
theorem dX9_readRelative_37 : decode cX9_readRelative 37 = .ok (.invokevirtual 173, 3) := by decide +kernel
theorem dX9_readRelative_40 : decode cX9_readRelative 40 = .ok (.iload_n 3, 1) := by decide +kernel
theorem dX9_readRelative_41 : decode cX9_readRelative 41 = .ok (.invokestatic 188, 3) := by decide +kernel
theorem dX9_readRelative_44 : decode cX9_readRelative 44 = .ok (.ifCond .eq 9, 3) := by decide +kernel
theorem dX9_readRelative_47 : decode cX9_readRelative 47 = .ok (.aload_n 0, 1) := by decide +kernel
theorem dX9_readRelative_48 : decode cX9_readRelative 48 = .ok (.iload_n 1, 1) := by decide +kernel
theorem dX9_readRelative_49 : decode cX9_readRelative 49 = .ok (.invokevirtual 191, 3) := by decide +kernel
theorem dX9_readRelative_52 : decode cX9_readRelative 52 = .ok (.return_, 1) := by decide +kernel
theorem dX9_readRelative_53 : decode cX9_readRelative 53 = .ok (.aload_n 0, 1) := by decide +kernel
theorem dX9_readRelative_54 : decode cX9_readRelative 54 = .ok (.iload_n 2, 1) := by decide +kernel
theorem dX9_readRelative_55 : decode cX9_readRelative 55 = .ok (.iconst 4, 1) := by decide +kernel
theorem dX9_readRelative_56 : decode cX9_readRelative 56 = .ok (.iconst 3, 1) := by decide +kernel
theorem dX9_readRelative_57 : decode cX9_readRelative 57 = .ok (.invokevirtual 114, 3) := by decide +kernel
theorem dX9_readRelative_60 : decode cX9_readRelative 60 = .ok (.iload_n 3, 1) := by decide +kernel
theorem dX9_readRelative_61 : decode cX9_readRelative 61 = .ok (.bipush 63, 2) := by decide +kernel
theorem dX9_readRelative_63 : decode cX9_readRelative 63 = .ok (.if_icmp .eq 13, 3) := by decide +kernel
theorem dX9_readRelative_66 : decode cX9_readRelative 66 = .ok (.iload_n 3, 1) := by decide +kernel
theorem dX9_readRelative_67 : decode cX9_readRelative 67 = .ok (.bipush 35, 2) := by decide +kernel
theorem dX9_readRelative_69 : decode cX9_readRelative 69 = .ok (.if_icmp .eq 7, 3) := by decide +kernel
theorem dX9_readRelative_72 : decode cX9_readRelative 72 = .ok (.iload_n 3, 1) := by decide +kernel
theorem dX9_readRelative_73 : decode cX9_readRelative 73 = .ok (.ifCond .ge 34, 3) := by decide +kernel
theorem dX9_readRelative_76 : decode cX9_readRelative 76 = .ok (.iload_n 3, 1) := by decide +kernel
theorem dX9_readRelative_77 : decode cX9_readRelative 77 = .ok (.bipush 63, 2) := by decide +kernel
theorem dX9_readRelative_79 : decode cX9_readRelative 79 = .ok (.if_icmp .eq 22, 3) := by decide +kernel
theorem dX9_readRelative_82 : decode cX9_readRelative 82 = .ok (.aload_n 0, 1) := by decide +kernel
theorem dX9_readRelative_83 : decode cX9_readRelative 83 = .ok (.iload_n 2, 1) := by decide +kernel
theorem dX9_readRelative_84 : decode cX9_readRelative 84 = .ok (.iconst 4, 1) := by decide +kernel
theorem dX9_readRelative_85 : decode cX9_readRelative 85 = .ok (.iconst 4, 1) := by decide +kernel
theorem dX9_readRelative_86 : decode cX9_readRelative 86 = .ok (.invokevirtual 114, 3) := by decide +kernel
theorem dX9_readRelative_89 : decode cX9_readRelative 89 = .ok (.aload_n 0, 1) := by decide +kernel
theorem dX9_readRelative_90 : decode cX9_readRelative 90 = .ok (.getfield 30, 3) := by decide +kernel
theorem dX9_readRelative_93 : decode cX9_readRelative 93 = .ok (.iconst 4, 1) := by decide +kernel
theorem dX9_readRelative_94 : decode cX9_readRelative 94 = .ok (.aload_n 0, 1) := by decide +kernel
theorem dX9_readRelative_95 : decode cX9_readRelative 95 = .ok (.getfield 30, 3) := by decide +kernel
theorem dX9_readRelative_98 : decode cX9_readRelative 98 = .ok (.iload_n 2, 1) := by decide +kernel
theorem dX9_readRelative_99 : decode cX9_readRelative 99 = .ok (.baload, 1) := by decide +kernel
theorem dX9_readRelative_100 : decode cX9_readRelative 100 = .ok (.bastore, 1) := by decide +kernel
theorem dX9_readRelative_101 : decode cX9_readRelative 101 = .ok (.aload_n 0, 1) := by decide +kernel
theorem dX9_readRelative_102 : decode cX9_readRelative 102 = .ok (.iload_n 1, 1) := by decide +kernel
theorem dX9_readRelative_103 : decode cX9_readRelative 103 = .ok (.invokevirtual 194, 3) := by decide +kernel
theorem dX9_readRelative_106 : decode cX9_readRelative 106 = .ok (.return_, 1) := by decide +kernel
theorem dX9_readRelative_107 : decode cX9_readRelative 107 = .ok (.aload_n 0, 1) := by decide +kernel
theorem dX9_readRelative_108 : decode cX9_readRelative 108 = .ok (.invokevirtual 197, 3) := by decide +kernel
theorem dX9_readRelative_111 : decode cX9_readRelative 111 = .ok (.aload_n 0, 1) := by decide +kernel
theorem dX9_readRelative_112 : decode cX9_readRelative 112 = .ok (.iload_n 1, 1) := by decide +kernel
theorem dX9_readRelative_113 : decode cX9_readRelative 113 = .ok (.invokevirtual 191, 3) := by decide +kernel
theorem dX9_readRelative_116 : decode cX9_readRelative 116 = .ok (.return_, 1) := by decide +kernel
theorem dX9_readScheme_0 : decode cX9_readScheme 0 = .ok (.iconst 0, 1) := by decide +kernel
theorem dX9_readScheme_1 : decode cX9_readScheme 1 = .ok (.istore_n 2, 1) := by decide +kernel
theorem dX9_readScheme_2 : decode cX9_readScheme 2 = .ok (.aload_n 0, 1) := by decide +kernel
theorem dX9_readScheme_3 : decode cX9_readScheme 3 = .ok (.iconst 0, 1) := by decide +kernel
theorem dX9_readScheme_4 : decode cX9_readScheme 4 = .ok (.invokevirtual 151, 3) := by decide +kernel
theorem dX9_readScheme_7 : decode cX9_readScheme 7 = .ok (.invokestatic 176, 3) := by decide +kernel
theorem dX9_readScheme_10 : decode cX9_readScheme 10 = .ok (.ifCond .eq 63, 3) := by decide +kernel
theorem dX9_readScheme_13 : decode cX9_readScheme 13 = .ok (.iconst 1, 1) := by decide +kernel
theorem dX9_readScheme_14 : decode cX9_readScheme 14 = .ok (.istore_n 2, 1) := by decide +kernel
theorem dX9_readScheme_15 : decode cX9_readScheme 15 = .ok (.aload_n 0, 1) := by decide +kernel
theorem dX9_readScheme_16 : decode cX9_readScheme 16 = .ok (.iload_n 2, 1) := by decide +kernel
theorem dX9_readScheme_17 : decode cX9_readScheme 17 = .ok (.invokevirtual 151, 3) := by decide +kernel
theorem dX9_readScheme_20 : decode cX9_readScheme 20 = .ok (.invokestatic 176, 3) := by decide +kernel
theorem dX9_readScheme_23 : decode cX9_readScheme 23 = .ok (.ifCond .ne 44, 3) := by decide +kernel
theorem dX9_readScheme_26 : decode cX9_readScheme 26 = .ok (.aload_n 0, 1) := by decide +kernel
theorem dX9_readScheme_27 : decode cX9_readScheme 27 = .ok (.iload_n 2, 1) := by decide +kernel
theorem dX9_readScheme_28 : decode cX9_readScheme 28 = .ok (.invokevirtual 151, 3) := by decide +kernel
theorem dX9_readScheme_31 : decode cX9_readScheme 31 = .ok (.invokestatic 95, 3) := by decide +kernel
theorem dX9_readScheme_34 : decode cX9_readScheme 34 = .ok (.ifCond .ne 33, 3) := by decide +kernel
theorem dX9_readScheme_37 : decode cX9_readScheme 37 = .ok (.aload_n 0, 1) := by decide +kernel
theorem dX9_readScheme_38 : decode cX9_readScheme 38 = .ok (.iload_n 2, 1) := by decide +kernel
theorem dX9_readScheme_39 : decode cX9_readScheme 39 = .ok (.invokevirtual 151, 3) := by decide +kernel
theorem dX9_readScheme_42 : decode cX9_readScheme 42 = .ok (.bipush 43, 2) := by decide +kernel
theorem dX9_readScheme_44 : decode cX9_readScheme 44 = .ok (.if_icmp .eq 23, 3) := by decide +kernel
theorem dX9_readScheme_47 : decode cX9_readScheme 47 = .ok (.aload_n 0, 1) := by decide +kernel
theorem dX9_readScheme_48 : decode cX9_readScheme 48 = .ok (.iload_n 2, 1) := by decide +kernel
theorem dX9_readScheme_49 : decode cX9_readScheme 49 = .ok (.invokevirtual 151, 3) := by decide +kernel
theorem dX9_readScheme_52 : decode cX9_readScheme 52 = .ok (.bipush 45, 2) := by decide +kernel
theorem dX9_readScheme_54 : decode cX9_readScheme 54 = .ok (.if_icmp .eq 13, 3) := by decide +kernel
theorem dX9_readScheme_57 : decode cX9_readScheme 57 = .ok (.aload_n 0, 1) := by decide +kernel
theorem dX9_readScheme_58 : decode cX9_readScheme 58 = .ok (.iload_n 2, 1) := by decide +kernel
theorem dX9_readScheme_59 : decode cX9_readScheme 59 = .ok (.invokevirtual 151, 3) := by decide +kernel
theorem dX9_readScheme_62 : decode cX9_readScheme 62 = .ok (.bipush 46, 2) := by decide +kernel
theorem dX9_readScheme_64 : decode cX9_readScheme 64 = .ok (.if_icmp .ne 9, 3) := by decide +kernel
theorem dX9_readScheme_67 : decode cX9_readScheme 67 = .ok (.iinc 2 1, 3) := by decide +kernel
theorem dX9_readScheme_70 : decode cX9_readScheme 70 = .ok (.goto (-55), 3) := by decide +kernel
theorem dX9_readScheme_73 : decode cX9_readScheme 73 = .ok (.iload_n 2, 1) := by decide +kernel
theorem dX9_readScheme_74 : decode cX9_readScheme 74 = .ok (.ifCond .eq 13, 3) := by decide +kernel
theorem dX9_readScheme_77 : decode cX9_readScheme 77 = .ok (.aload_n 0, 1) := by decide +kernel
theorem dX9_readScheme_78 : decode cX9_readScheme 78 = .ok (.iload_n 2, 1) := by decide +kernel
theorem dX9_readScheme_79 : decode cX9_readScheme 79 = .ok (.invokevirtual 151, 3) := by decide +kernel
theorem dX9_readScheme_82 : decode cX9_readScheme 82 = .ok (.bipush 58, 2) := by decide +kernel
theorem dX9_readScheme_84 : decode cX9_readScheme 84 = .ok (.if_icmp .eq 33, 3) := by decide +kernel
theorem dX9_readScheme_87 : decode cX9_readScheme 87 = .ok (.iload_n 1, 1) := by decide +kernel
theorem dX9_readScheme_88 : decode cX9_readScheme 88 = .ok (.ifCond .ge 10, 3) := by decide +kernel
theorem dX9_readScheme_91 : decode cX9_readScheme 91 = .ok (.aload_n 0, 1) := by decide +kernel
theorem dX9_readScheme_92 : decode cX9_readScheme 92 = .ok (.bipush (-11), 2) := by decide +kernel
theorem dX9_readScheme_94 : decode cX9_readScheme 94 = .ok (.putfield 163, 3) := by decide +kernel
theorem dX9_readScheme_97 : decode cX9_readScheme 97 = .ok (.return_, 1) := by decide +kernel
theorem dX9_readScheme_98 : decode cX9_readScheme 98 = .ok (.aload_n 0, 1) := by decide +kernel
theorem dX9_readScheme_99 : decode cX9_readScheme 99 = .ok (.getfield 17, 3) := by decide +kernel
theorem dX9_readScheme_102 : decode cX9_readScheme 102 = .ok (.iconst 4, 1) := by decide +kernel
theorem dX9_readScheme_103 : decode cX9_readScheme 103 = .ok (.aload_n 0, 1) := by decide +kernel
theorem dX9_readScheme_104 : decode cX9_readScheme 104 = .ok (.getfield 17, 3) := by decide +kernel
theorem dX9_readScheme_107 : decode cX9_readScheme 107 = .ok (.iload_n 1, 1) := by decide +kernel
theorem dX9_readScheme_108 : decode cX9_readScheme 108 = .ok (.iaload, 1) := by decide +kernel
theorem dX9_readScheme_109 : decode cX9_readScheme 109 = .ok (.iastore, 1) := by decide +kernel
theorem dX9_readScheme_110 : decode cX9_readScheme 110 = .ok (.aload_n 0, 1) := by decide +kernel
theorem dX9_readScheme_111 : decode cX9_readScheme 111 = .ok (.iconst 0, 1) := by decide +kernel
theorem dX9_readScheme_112 : decode cX9_readScheme 112 = .ok (.iload_n 1, 1) := by decide +kernel
theorem dX9_readScheme_113 : decode cX9_readScheme 113 = .ok (.invokevirtual 179, 3) := by decide +kernel
theorem dX9_readScheme_116 : decode cX9_readScheme 116 = .ok (.return_, 1) := by decide +kernel
theorem dX9_readScheme_117 : decode cX9_readScheme 117 = .ok (.iconst (-1), 1) := by decide +kernel
theorem dX9_readScheme_118 : decode cX9_readScheme 118 = .ok (.istore_n 3, 1) := by decide +kernel
theorem dX9_readScheme_119 : decode cX9_readScheme 119 = .ok (.iconst 0, 1) := by decide +kernel
theorem dX9_readScheme_120 : decode cX9_readScheme 120 = .ok (.istore 4, 2) := by decide +kernel
theorem dX9_readScheme_122 : decode cX9_readScheme 122 = .ok (.iload 4, 2) := by decide +kernel
theorem dX9_readScheme_124 : decode cX9_readScheme 124 = .ok (.iconst 5, 1) := by decide +kernel
theorem dX9_readScheme_125 : decode cX9_readScheme 125 = .ok (.if_icmp .ge 26, 3) := by decide +kernel
theorem dX9_readScheme_128 : decode cX9_readScheme 128 = .ok (.aload_n 0, 1) := by decide +kernel
theorem dX9_readScheme_129 : decode cX9_readScheme 129 = .ok (.iload_n 2, 1) := by decide +kernel
theorem dX9_readScheme_130 : decode cX9_readScheme 130 = .ok (.iload 4, 2) := by decide +kernel
theorem dX9_readScheme_132 : decode cX9_readScheme 132 = .ok (.invokevirtual 182, 3) := by decide +kernel
theorem dX9_readScheme_135 : decode cX9_readScheme 135 = .ok (.ifCond .eq 8, 3) := by decide +kernel
theorem dX9_readScheme_138 : decode cX9_readScheme 138 = .ok (.iload 4, 2) := by decide +kernel
theorem dX9_readScheme_140 : decode cX9_readScheme 140 = .ok (.goto 4, 3) := by decide +kernel
theorem dX9_readScheme_143 : decode cX9_readScheme 143 = .ok (.iload_n 3, 1) := by decide +kernel
theorem dX9_readScheme_144 : decode cX9_readScheme 144 = .ok (.istore_n 3, 1) := by decide +kernel
theorem dX9_readScheme_145 : decode cX9_readScheme 145 = .ok (.iinc 4 1, 3) := by decide +kernel
theorem dX9_readScheme_148 : decode cX9_readScheme 148 = .ok (.goto (-26), 3) := by decide +kernel
theorem dX9_readScheme_151 : decode cX9_readScheme 151 = .ok (.iload_n 3, 1) := by decide +kernel
theorem dX9_readScheme_152 : decode cX9_readScheme 152 = .ok (.ifCond .ge 10, 3) := by decide +kernel
theorem dX9_readScheme_155 : decode cX9_readScheme 155 = .ok (.aload_n 0, 1) := by decide +kernel
theorem dX9_readScheme_156 : decode cX9_readScheme 156 = .ok (.bipush (-12), 2) := by decide +kernel
theorem dX9_readScheme_158 : decode cX9_readScheme 158 = .ok (.putfield 163, 3) := by decide +kernel
theorem dX9_readScheme_161 : decode cX9_readScheme 161 = .ok (.return_, 1) := by decide +kernel
theorem dX9_readScheme_162 : decode cX9_readScheme 162 = .ok (.aload_n 0, 1) := by decide +kernel
theorem dX9_readScheme_163 : decode cX9_readScheme 163 = .ok (.getfield 17, 3) := by decide +kernel
theorem dX9_readScheme_166 : decode cX9_readScheme 166 = .ok (.iconst 4, 1) := by decide +kernel
theorem dX9_readScheme_167 : decode cX9_readScheme 167 = .ok (.iload_n 3, 1) := by decide +kernel
theorem dX9_readScheme_168 : decode cX9_readScheme 168 = .ok (.iastore, 1) := by decide +kernel
theorem dX9_readScheme_169 : decode cX9_readScheme 169 = .ok (.aload_n 0, 1) := by decide +kernel
theorem dX9_readScheme_170 : decode cX9_readScheme 170 = .ok (.iload_n 2, 1) := by decide +kernel
theorem dX9_readScheme_171 : decode cX9_readScheme 171 = .ok (.iconst 1, 1) := by decide +kernel
theorem dX9_readScheme_172 : decode cX9_readScheme 172 = .ok (.iadd, 1) := by decide +kernel
theorem dX9_readScheme_173 : decode cX9_readScheme 173 = .ok (.invokevirtual 151, 3) := by decide +kernel
theorem dX9_readScheme_176 : decode cX9_readScheme 176 = .ok (.bipush 47, 2) := by decide +kernel
theorem dX9_readScheme_178 : decode cX9_readScheme 178 = .ok (.if_icmp .ne 19, 3) := by decide +kernel
theorem dX9_readScheme_181 : decode cX9_readScheme 181 = .ok (.aload_n 0, 1) := by decide +kernel
theorem dX9_readScheme_182 : decode cX9_readScheme 182 = .ok (.iload_n 2, 1) := by decide +kernel
theorem dX9_readScheme_183 : decode cX9_readScheme 183 = .ok (.iconst 2, 1) := by decide +kernel
theorem dX9_readScheme_184 : decode cX9_readScheme 184 = .ok (.iadd, 1) := by decide +kernel
theorem dX9_readScheme_185 : decode cX9_readScheme 185 = .ok (.invokevirtual 151, 3) := by decide +kernel
theorem dX9_readScheme_188 : decode cX9_readScheme 188 = .ok (.bipush 47, 2) := by decide +kernel
theorem dX9_readScheme_190 : decode cX9_readScheme 190 = .ok (.if_icmp .ne 7, 3) := by decide +kernel
theorem dX9_readScheme_193 : decode cX9_readScheme 193 = .ok (.iconst 1, 1) := by decide +kernel
theorem dX9_readScheme_194 : decode cX9_readScheme 194 = .ok (.goto 4, 3) := by decide +kernel
theorem dX9_readScheme_197 : decode cX9_readScheme 197 = .ok (.iconst 0, 1) := by decide +kernel
theorem dX9_readScheme_198 : decode cX9_readScheme 198 = .ok (.istore 4, 2) := by decide +kernel
theorem dX9_readScheme_200 : decode cX9_readScheme 200 = .ok (.iload_n 1, 1) := by decide +kernel
theorem dX9_readScheme_201 : decode cX9_readScheme 201 = .ok (.ifCond .lt 29, 3) := by decide +kernel
theorem dX9_readScheme_204 : decode cX9_readScheme 204 = .ok (.aload_n 0, 1) := by decide +kernel
theorem dX9_readScheme_205 : decode cX9_readScheme 205 = .ok (.getfield 17, 3) := by decide +kernel
theorem dX9_readScheme_208 : decode cX9_readScheme 208 = .ok (.iload_n 1, 1) := by decide +kernel
theorem dX9_readScheme_209 : decode cX9_readScheme 209 = .ok (.iaload, 1) := by decide +kernel
theorem dX9_readScheme_210 : decode cX9_readScheme 210 = .ok (.iload_n 3, 1) := by decide +kernel
theorem dX9_readScheme_211 : decode cX9_readScheme 211 = .ok (.if_icmp .ne 19, 3) := by decide +kernel
theorem dX9_readScheme_214 : decode cX9_readScheme 214 = .ok (.iload 4, 2) := by decide +kernel
theorem dX9_readScheme_216 : decode cX9_readScheme 216 = .ok (.ifCond .ne 14, 3) := by decide +kernel
theorem dX9_readScheme_219 : decode cX9_readScheme 219 = .ok (.aload_n 0, 1) := by decide +kernel
theorem dX9_readScheme_220 : decode cX9_readScheme 220 = .ok (.iload_n 2, 1) := by decide +kernel
theorem dX9_readScheme_221 : decode cX9_readScheme 221 = .ok (.iconst 1, 1) := by decide +kernel
theorem dX9_readScheme_222 : decode cX9_readScheme 222 = .ok (.iadd, 1) := by decide +kernel
theorem dX9_readScheme_223 : decode cX9_readScheme 223 = .ok (.iload_n 1, 1) := by decide +kernel
theorem dX9_readScheme_224 : decode cX9_readScheme 224 = .ok (.invokevirtual 179, 3) := by decide +kernel
theorem dX9_readScheme_227 : decode cX9_readScheme 227 = .ok (.goto 10, 3) := by decide +kernel
theorem dX9_readScheme_230 : decode cX9_readScheme 230 = .ok (.aload_n 0, 1) := by decide +kernel
theorem dX9_readScheme_231 : decode cX9_readScheme 231 = .ok (.iload_n 2, 1) := by decide +kernel
theorem dX9_readScheme_232 : decode cX9_readScheme 232 = .ok (.iconst 1, 1) := by decide +kernel
theorem dX9_readScheme_233 : decode cX9_readScheme 233 = .ok (.iadd, 1) := by decide +kernel
theorem dX9_readScheme_234 : decode cX9_readScheme 234 = .ok (.invokevirtual 185, 3) := by decide +kernel
theorem dX9_readScheme_237 : decode cX9_readScheme 237 = .ok (.return_, 1) := by decide +kernel
theorem dX9_put_0 : decode cX9_put 0 = .ok (.aload_n 0, 1) := by decide +kernel
theorem dX9_put_1 : decode cX9_put 1 = .ok (.getfield 52, 3) := by decide +kernel
theorem dX9_put_4 : decode cX9_put 4 = .ok (.aload_n 0, 1) := by decide +kernel
theorem dX9_put_5 : decode cX9_put 5 = .ok (.getfield 266, 3) := by decide +kernel
theorem dX9_put_8 : decode cX9_put 8 = .ok (.iload_n 1, 1) := by decide +kernel
theorem dX9_put_9 : decode cX9_put 9 = .ok (.i2b, 1) := by decide +kernel
theorem dX9_put_10 : decode cX9_put 10 = .ok (.bastore, 1) := by decide +kernel
theorem dX9_put_11 : decode cX9_put 11 = .ok (.aload_n 0, 1) := by decide +kernel
theorem dX9_put_12 : decode cX9_put 12 = .ok (.dup, 1) := by decide +kernel
theorem dX9_put_13 : decode cX9_put 13 = .ok (.getfield 266, 3) := by decide +kernel
theorem dX9_put_16 : decode cX9_put 16 = .ok (.iconst 1, 1) := by decide +kernel
theorem dX9_put_17 : decode cX9_put 17 = .ok (.iadd, 1) := by decide +kernel
theorem dX9_put_18 : decode cX9_put 18 = .ok (.putfield 266, 3) := by decide +kernel
theorem dX9_put_21 : decode cX9_put 21 = .ok (.return_, 1) := by decide +kernel
theorem dX9_putDecimal_0 : decode cX9_putDecimal 0 = .ok (.iconst 1, 1) := by decide +kernel
theorem dX9_putDecimal_1 : decode cX9_putDecimal 1 = .ok (.istore_n 2, 1) := by decide +kernel
theorem dX9_putDecimal_2 : decode cX9_putDecimal 2 = .ok (.iload_n 1, 1) := by decide +kernel
theorem dX9_putDecimal_3 : decode cX9_putDecimal 3 = .ok (.iload_n 2, 1) := by decide +kernel
theorem dX9_putDecimal_4 : decode cX9_putDecimal 4 = .ok (.idiv, 1) := by decide +kernel
theorem dX9_putDecimal_5 : decode cX9_putDecimal 5 = .ok (.bipush 9, 2) := by decide +kernel
theorem dX9_putDecimal_7 : decode cX9_putDecimal 7 = .ok (.if_icmp .le 11, 3) := by decide +kernel
theorem dX9_putDecimal_10 : decode cX9_putDecimal 10 = .ok (.iload_n 2, 1) := by decide +kernel
theorem dX9_putDecimal_11 : decode cX9_putDecimal 11 = .ok (.bipush 10, 2) := by decide +kernel
theorem dX9_putDecimal_13 : decode cX9_putDecimal 13 = .ok (.imul, 1) := by decide +kernel
theorem dX9_putDecimal_14 : decode cX9_putDecimal 14 = .ok (.istore_n 2, 1) := by decide +kernel
theorem dX9_putDecimal_15 : decode cX9_putDecimal 15 = .ok (.goto (-13), 3) := by decide +kernel
theorem dX9_putDecimal_18 : decode cX9_putDecimal 18 = .ok (.iload_n 2, 1) := by decide +kernel
theorem dX9_putDecimal_19 : decode cX9_putDecimal 19 = .ok (.ifCond .le 24, 3) := by decide +kernel
theorem dX9_putDecimal_22 : decode cX9_putDecimal 22 = .ok (.aload_n 0, 1) := by decide +kernel
theorem dX9_putDecimal_23 : decode cX9_putDecimal 23 = .ok (.bipush 48, 2) := by decide +kernel
theorem dX9_putDecimal_25 : decode cX9_putDecimal 25 = .ok (.iload_n 1, 1) := by decide +kernel
theorem dX9_putDecimal_26 : decode cX9_putDecimal 26 = .ok (.iload_n 2, 1) := by decide +kernel
theorem dX9_putDecimal_27 : decode cX9_putDecimal 27 = .ok (.idiv, 1) := by decide +kernel
theorem dX9_putDecimal_28 : decode cX9_putDecimal 28 = .ok (.bipush 10, 2) := by decide +kernel
theorem dX9_putDecimal_30 : decode cX9_putDecimal 30 = .ok (.irem, 1) := by decide +kernel
theorem dX9_putDecimal_31 : decode cX9_putDecimal 31 = .ok (.iadd, 1) := by decide +kernel
theorem dX9_putDecimal_32 : decode cX9_putDecimal 32 = .ok (.invokevirtual 269, 3) := by decide +kernel
theorem dX9_putDecimal_35 : decode cX9_putDecimal 35 = .ok (.iload_n 2, 1) := by decide +kernel
theorem dX9_putDecimal_36 : decode cX9_putDecimal 36 = .ok (.bipush 10, 2) := by decide +kernel
theorem dX9_putDecimal_38 : decode cX9_putDecimal 38 = .ok (.idiv, 1) := by decide +kernel
theorem dX9_putDecimal_39 : decode cX9_putDecimal 39 = .ok (.istore_n 2, 1) := by decide +kernel
theorem dX9_putDecimal_40 : decode cX9_putDecimal 40 = .ok (.goto (-22), 3) := by decide +kernel
theorem dX9_putDecimal_43 : decode cX9_putDecimal 43 = .ok (.return_, 1) := by decide +kernel
theorem dX9_putHex_0 : decode cX9_putHex 0 = .ok (.iconst 0, 1) := by decide +kernel
theorem dX9_putHex_1 : decode cX9_putHex 1 = .ok (.istore_n 2, 1) := by decide +kernel
theorem dX9_putHex_2 : decode cX9_putHex 2 = .ok (.bipush 12, 2) := by decide +kernel
theorem dX9_putHex_4 : decode cX9_putHex 4 = .ok (.istore_n 3, 1) := by decide +kernel
theorem dX9_putHex_5 : decode cX9_putHex 5 = .ok (.iload_n 3, 1) := by decide +kernel
theorem dX9_putHex_6 : decode cX9_putHex 6 = .ok (.ifCond .lt 67, 3) := by decide +kernel
theorem dX9_putHex_9 : decode cX9_putHex 9 = .ok (.iload_n 1, 1) := by decide +kernel
theorem dX9_putHex_10 : decode cX9_putHex 10 = .ok (.iload_n 3, 1) := by decide +kernel
theorem dX9_putHex_11 : decode cX9_putHex 11 = .ok (.ishr, 1) := by decide +kernel
theorem dX9_putHex_12 : decode cX9_putHex 12 = .ok (.bipush 15, 2) := by decide +kernel
theorem dX9_putHex_14 : decode cX9_putHex 14 = .ok (.iand, 1) := by decide +kernel
theorem dX9_putHex_15 : decode cX9_putHex 15 = .ok (.istore 4, 2) := by decide +kernel
theorem dX9_putHex_17 : decode cX9_putHex 17 = .ok (.iload_n 2, 1) := by decide +kernel
theorem dX9_putHex_18 : decode cX9_putHex 18 = .ok (.ifCond .ne 12, 3) := by decide +kernel
theorem dX9_putHex_21 : decode cX9_putHex 21 = .ok (.iload 4, 2) := by decide +kernel
theorem dX9_putHex_23 : decode cX9_putHex 23 = .ok (.ifCond .gt 7, 3) := by decide +kernel
theorem dX9_putHex_26 : decode cX9_putHex 26 = .ok (.iload_n 3, 1) := by decide +kernel
theorem dX9_putHex_27 : decode cX9_putHex 27 = .ok (.ifCond .ne 7, 3) := by decide +kernel
theorem dX9_putHex_30 : decode cX9_putHex 30 = .ok (.iconst 1, 1) := by decide +kernel
theorem dX9_putHex_31 : decode cX9_putHex 31 = .ok (.goto 4, 3) := by decide +kernel
theorem dX9_putHex_34 : decode cX9_putHex 34 = .ok (.iconst 0, 1) := by decide +kernel
theorem dX9_putHex_35 : decode cX9_putHex 35 = .ok (.istore_n 2, 1) := by decide +kernel
theorem dX9_putHex_36 : decode cX9_putHex 36 = .ok (.iload_n 2, 1) := by decide +kernel
theorem dX9_putHex_37 : decode cX9_putHex 37 = .ok (.ifCond .eq 30, 3) := by decide +kernel
theorem dX9_putHex_40 : decode cX9_putHex 40 = .ok (.aload_n 0, 1) := by decide +kernel
theorem dX9_putHex_41 : decode cX9_putHex 41 = .ok (.iload 4, 2) := by decide +kernel
theorem dX9_putHex_43 : decode cX9_putHex 43 = .ok (.bipush 10, 2) := by decide +kernel
theorem dX9_putHex_45 : decode cX9_putHex 45 = .ok (.if_icmp .ge 11, 3) := by decide +kernel
theorem dX9_putHex_48 : decode cX9_putHex 48 = .ok (.bipush 48, 2) := by decide +kernel
theorem dX9_putHex_50 : decode cX9_putHex 50 = .ok (.iload 4, 2) := by decide +kernel
theorem dX9_putHex_52 : decode cX9_putHex 52 = .ok (.iadd, 1) := by decide +kernel
theorem dX9_putHex_53 : decode cX9_putHex 53 = .ok (.goto 11, 3) := by decide +kernel
theorem dX9_putHex_56 : decode cX9_putHex 56 = .ok (.bipush 97, 2) := by decide +kernel
theorem dX9_putHex_58 : decode cX9_putHex 58 = .ok (.iload 4, 2) := by decide +kernel
theorem dX9_putHex_60 : decode cX9_putHex 60 = .ok (.iadd, 1) := by decide +kernel
theorem dX9_putHex_61 : decode cX9_putHex 61 = .ok (.bipush 10, 2) := by decide +kernel
theorem dX9_putHex_63 : decode cX9_putHex 63 = .ok (.isub, 1) := by decide +kernel
theorem dX9_putHex_64 : decode cX9_putHex 64 = .ok (.invokevirtual 269, 3) := by decide +kernel
theorem dX9_putHex_67 : decode cX9_putHex 67 = .ok (.iinc 3 (-4), 3) := by decide +kernel
theorem dX9_putHex_70 : decode cX9_putHex 70 = .ok (.goto (-65), 3) := by decide +kernel
theorem dX9_putHex_73 : decode cX9_putHex 73 = .ok (.return_, 1) := by decide +kernel
theorem dX9_writeSix_0 : decode cX9_writeSix 0 = .ok (.iconst (-1), 1) := by decide +kernel
theorem dX9_writeSix_1 : decode cX9_writeSix 1 = .ok (.istore_n 2, 1) := by decide +kernel
theorem dX9_writeSix_2 : decode cX9_writeSix 2 = .ok (.iconst 1, 1) := by decide +kernel
theorem dX9_writeSix_3 : decode cX9_writeSix 3 = .ok (.istore_n 3, 1) := by decide +kernel
theorem dX9_writeSix_4 : decode cX9_writeSix 4 = .ok (.iconst 0, 1) := by decide +kernel
theorem dX9_writeSix_5 : decode cX9_writeSix 5 = .ok (.istore 4, 2) := by decide +kernel
theorem dX9_writeSix_7 : decode cX9_writeSix 7 = .ok (.iload 4, 2) := by decide +kernel
theorem dX9_writeSix_9 : decode cX9_writeSix 9 = .ok (.bipush 8, 2) := by decide +kernel
theorem dX9_writeSix_11 : decode cX9_writeSix 11 = .ok (.if_icmp .ge 58, 3) := by decide +kernel
theorem dX9_writeSix_14 : decode cX9_writeSix 14 = .ok (.iconst 0, 1) := by decide +kernel
theorem dX9_writeSix_15 : decode cX9_writeSix 15 = .ok (.istore 5, 2) := by decide +kernel
theorem dX9_writeSix_17 : decode cX9_writeSix 17 = .ok (.iload 4, 2) := by decide +kernel
theorem dX9_writeSix_19 : decode cX9_writeSix 19 = .ok (.iload 5, 2) := by decide +kernel
theorem dX9_writeSix_21 : decode cX9_writeSix 21 = .ok (.iadd, 1) := by decide +kernel
theorem dX9_writeSix_22 : decode cX9_writeSix 22 = .ok (.bipush 8, 2) := by decide +kernel
theorem dX9_writeSix_24 : decode cX9_writeSix 24 = .ok (.if_icmp .ge 27, 3) := by decide +kernel
theorem dX9_writeSix_27 : decode cX9_writeSix 27 = .ok (.aload_n 0, 1) := by decide +kernel
theorem dX9_writeSix_28 : decode cX9_writeSix 28 = .ok (.getfield 27, 3) := by decide +kernel
theorem dX9_writeSix_31 : decode cX9_writeSix 31 = .ok (.bipush 8, 2) := by decide +kernel
theorem dX9_writeSix_33 : decode cX9_writeSix 33 = .ok (.iload_n 1, 1) := by decide +kernel
theorem dX9_writeSix_34 : decode cX9_writeSix 34 = .ok (.imul, 1) := by decide +kernel
theorem dX9_writeSix_35 : decode cX9_writeSix 35 = .ok (.iload 4, 2) := by decide +kernel
theorem dX9_writeSix_37 : decode cX9_writeSix 37 = .ok (.iadd, 1) := by decide +kernel
theorem dX9_writeSix_38 : decode cX9_writeSix 38 = .ok (.iload 5, 2) := by decide +kernel
theorem dX9_writeSix_40 : decode cX9_writeSix 40 = .ok (.iadd, 1) := by decide +kernel
theorem dX9_writeSix_41 : decode cX9_writeSix 41 = .ok (.iaload, 1) := by decide +kernel
theorem dX9_writeSix_42 : decode cX9_writeSix 42 = .ok (.ifCond .ne 9, 3) := by decide +kernel
theorem dX9_writeSix_45 : decode cX9_writeSix 45 = .ok (.iinc 5 1, 3) := by decide +kernel
theorem dX9_writeSix_48 : decode cX9_writeSix 48 = .ok (.goto (-31), 3) := by decide +kernel
theorem dX9_writeSix_51 : decode cX9_writeSix 51 = .ok (.iload 5, 2) := by decide +kernel
theorem dX9_writeSix_53 : decode cX9_writeSix 53 = .ok (.iload_n 3, 1) := by decide +kernel
theorem dX9_writeSix_54 : decode cX9_writeSix 54 = .ok (.if_icmp .le 9, 3) := by decide +kernel
theorem dX9_writeSix_57 : decode cX9_writeSix 57 = .ok (.iload 5, 2) := by decide +kernel
theorem dX9_writeSix_59 : decode cX9_writeSix 59 = .ok (.istore_n 3, 1) := by decide +kernel
theorem dX9_writeSix_60 : decode cX9_writeSix 60 = .ok (.iload 4, 2) := by decide +kernel
theorem dX9_writeSix_62 : decode cX9_writeSix 62 = .ok (.istore_n 2, 1) := by decide +kernel
theorem dX9_writeSix_63 : decode cX9_writeSix 63 = .ok (.iinc 4 1, 3) := by decide +kernel
theorem dX9_writeSix_66 : decode cX9_writeSix 66 = .ok (.goto (-59), 3) := by decide +kernel
theorem dX9_writeSix_69 : decode cX9_writeSix 69 = .ok (.aload_n 0, 1) := by decide +kernel
theorem dX9_writeSix_70 : decode cX9_writeSix 70 = .ok (.bipush 91, 2) := by decide +kernel
theorem dX9_writeSix_72 : decode cX9_writeSix 72 = .ok (.invokevirtual 269, 3) := by decide +kernel
theorem dX9_writeSix_75 : decode cX9_writeSix 75 = .ok (.iconst 0, 1) := by decide +kernel
theorem dX9_writeSix_76 : decode cX9_writeSix 76 = .ok (.istore 4, 2) := by decide +kernel
theorem dX9_writeSix_78 : decode cX9_writeSix 78 = .ok (.iconst 0, 1) := by decide +kernel
theorem dX9_writeSix_79 : decode cX9_writeSix 79 = .ok (.istore 5, 2) := by decide +kernel
theorem dX9_writeSix_81 : decode cX9_writeSix 81 = .ok (.iload 4, 2) := by decide +kernel
theorem dX9_writeSix_83 : decode cX9_writeSix 83 = .ok (.bipush 8, 2) := by decide +kernel
theorem dX9_writeSix_85 : decode cX9_writeSix 85 = .ok (.if_icmp .ge 69, 3) := by decide +kernel
theorem dX9_writeSix_88 : decode cX9_writeSix 88 = .ok (.iload 4, 2) := by decide +kernel
theorem dX9_writeSix_90 : decode cX9_writeSix 90 = .ok (.iload_n 2, 1) := by decide +kernel
theorem dX9_writeSix_91 : decode cX9_writeSix 91 = .ok (.if_icmp .ne 27, 3) := by decide +kernel
theorem dX9_writeSix_94 : decode cX9_writeSix 94 = .ok (.aload_n 0, 1) := by decide +kernel
theorem dX9_writeSix_95 : decode cX9_writeSix 95 = .ok (.bipush 58, 2) := by decide +kernel
theorem dX9_writeSix_97 : decode cX9_writeSix 97 = .ok (.invokevirtual 269, 3) := by decide +kernel
theorem dX9_writeSix_100 : decode cX9_writeSix 100 = .ok (.aload_n 0, 1) := by decide +kernel
theorem dX9_writeSix_101 : decode cX9_writeSix 101 = .ok (.bipush 58, 2) := by decide +kernel
theorem dX9_writeSix_103 : decode cX9_writeSix 103 = .ok (.invokevirtual 269, 3) := by decide +kernel
theorem dX9_writeSix_106 : decode cX9_writeSix 106 = .ok (.iload 4, 2) := by decide +kernel
theorem dX9_writeSix_108 : decode cX9_writeSix 108 = .ok (.iload_n 3, 1) := by decide +kernel
theorem dX9_writeSix_109 : decode cX9_writeSix 109 = .ok (.iadd, 1) := by decide +kernel
theorem dX9_writeSix_110 : decode cX9_writeSix 110 = .ok (.istore 4, 2) := by decide +kernel
theorem dX9_writeSix_112 : decode cX9_writeSix 112 = .ok (.iconst 0, 1) := by decide +kernel
theorem dX9_writeSix_113 : decode cX9_writeSix 113 = .ok (.istore 5, 2) := by decide +kernel
theorem dX9_writeSix_115 : decode cX9_writeSix 115 = .ok (.goto (-34), 3) := by decide +kernel
theorem dX9_writeSix_118 : decode cX9_writeSix 118 = .ok (.iload 5, 2) := by decide +kernel
theorem dX9_writeSix_120 : decode cX9_writeSix 120 = .ok (.ifCond .eq 9, 3) := by decide +kernel
theorem dX9_writeSix_123 : decode cX9_writeSix 123 = .ok (.aload_n 0, 1) := by decide +kernel
theorem dX9_writeSix_124 : decode cX9_writeSix 124 = .ok (.bipush 58, 2) := by decide +kernel
theorem dX9_writeSix_126 : decode cX9_writeSix 126 = .ok (.invokevirtual 269, 3) := by decide +kernel
theorem dX9_writeSix_129 : decode cX9_writeSix 129 = .ok (.aload_n 0, 1) := by decide +kernel
theorem dX9_writeSix_130 : decode cX9_writeSix 130 = .ok (.aload_n 0, 1) := by decide +kernel
theorem dX9_writeSix_131 : decode cX9_writeSix 131 = .ok (.getfield 27, 3) := by decide +kernel
theorem dX9_writeSix_134 : decode cX9_writeSix 134 = .ok (.bipush 8, 2) := by decide +kernel
theorem dX9_writeSix_136 : decode cX9_writeSix 136 = .ok (.iload_n 1, 1) := by decide +kernel
theorem dX9_writeSix_137 : decode cX9_writeSix 137 = .ok (.imul, 1) := by decide +kernel
theorem dX9_writeSix_138 : decode cX9_writeSix 138 = .ok (.iload 4, 2) := by decide +kernel
theorem dX9_writeSix_140 : decode cX9_writeSix 140 = .ok (.iadd, 1) := by decide +kernel
theorem dX9_writeSix_141 : decode cX9_writeSix 141 = .ok (.iaload, 1) := by decide +kernel
theorem dX9_writeSix_142 : decode cX9_writeSix 142 = .ok (.invokevirtual 278, 3) := by decide +kernel
theorem dX9_writeSix_145 : decode cX9_writeSix 145 = .ok (.iconst 1, 1) := by decide +kernel
theorem dX9_writeSix_146 : decode cX9_writeSix 146 = .ok (.istore 5, 2) := by decide +kernel
theorem dX9_writeSix_148 : decode cX9_writeSix 148 = .ok (.iinc 4 1, 3) := by decide +kernel
theorem dX9_writeSix_151 : decode cX9_writeSix 151 = .ok (.goto (-70), 3) := by decide +kernel
theorem dX9_writeSix_154 : decode cX9_writeSix 154 = .ok (.aload_n 0, 1) := by decide +kernel
theorem dX9_writeSix_155 : decode cX9_writeSix 155 = .ok (.bipush 93, 2) := by decide +kernel
theorem dX9_writeSix_157 : decode cX9_writeSix 157 = .ok (.invokevirtual 269, 3) := by decide +kernel
theorem dX9_writeSix_160 : decode cX9_writeSix 160 = .ok (.return_, 1) := by decide +kernel
theorem dX9_writeHost_0 : decode cX9_writeHost 0 = .ok (.aload_n 0, 1) := by decide +kernel
theorem dX9_writeHost_1 : decode cX9_writeHost 1 = .ok (.iconst 0, 1) := by decide +kernel
theorem dX9_writeHost_2 : decode cX9_writeHost 2 = .ok (.putfield 266, 3) := by decide +kernel
theorem dX9_writeHost_5 : decode cX9_writeHost 5 = .ok (.aload_n 0, 1) := by decide +kernel
theorem dX9_writeHost_6 : decode cX9_writeHost 6 = .ok (.getfield 24, 3) := by decide +kernel
theorem dX9_writeHost_9 : decode cX9_writeHost 9 = .ok (.iload_n 1, 1) := by decide +kernel
theorem dX9_writeHost_10 : decode cX9_writeHost 10 = .ok (.iaload, 1) := by decide +kernel
theorem dX9_writeHost_11 : decode cX9_writeHost 11 = .ok (.ifCond .ne 41, 3) := by decide +kernel
theorem dX9_writeHost_14 : decode cX9_writeHost 14 = .ok (.iconst 0, 1) := by decide +kernel
theorem dX9_writeHost_15 : decode cX9_writeHost 15 = .ok (.istore_n 2, 1) := by decide +kernel
theorem dX9_writeHost_16 : decode cX9_writeHost 16 = .ok (.iload_n 2, 1) := by decide +kernel
theorem dX9_writeHost_17 : decode cX9_writeHost 17 = .ok (.aload_n 0, 1) := by decide +kernel
theorem dX9_writeHost_18 : decode cX9_writeHost 18 = .ok (.iload_n 1, 1) := by decide +kernel
theorem dX9_writeHost_19 : decode cX9_writeHost 19 = .ok (.iconst 2, 1) := by decide +kernel
theorem dX9_writeHost_20 : decode cX9_writeHost 20 = .ok (.invokevirtual 107, 3) := by decide +kernel
theorem dX9_writeHost_23 : decode cX9_writeHost 23 = .ok (.if_icmp .ge 26, 3) := by decide +kernel
theorem dX9_writeHost_26 : decode cX9_writeHost 26 = .ok (.aload_n 0, 1) := by decide +kernel
theorem dX9_writeHost_27 : decode cX9_writeHost 27 = .ok (.aload_n 0, 1) := by decide +kernel
theorem dX9_writeHost_28 : decode cX9_writeHost 28 = .ok (.getfield 37, 3) := by decide +kernel
theorem dX9_writeHost_31 : decode cX9_writeHost 31 = .ok (.aload_n 0, 1) := by decide +kernel
theorem dX9_writeHost_32 : decode cX9_writeHost 32 = .ok (.iload_n 1, 1) := by decide +kernel
theorem dX9_writeHost_33 : decode cX9_writeHost 33 = .ok (.iconst 2, 1) := by decide +kernel
theorem dX9_writeHost_34 : decode cX9_writeHost 34 = .ok (.invokevirtual 111, 3) := by decide +kernel
theorem dX9_writeHost_37 : decode cX9_writeHost 37 = .ok (.iload_n 2, 1) := by decide +kernel
theorem dX9_writeHost_38 : decode cX9_writeHost 38 = .ok (.iadd, 1) := by decide +kernel
theorem dX9_writeHost_39 : decode cX9_writeHost 39 = .ok (.baload, 1) := by decide +kernel
theorem dX9_writeHost_40 : decode cX9_writeHost 40 = .ok (.invokevirtual 269, 3) := by decide +kernel
theorem dX9_writeHost_43 : decode cX9_writeHost 43 = .ok (.iinc 2 1, 3) := by decide +kernel
theorem dX9_writeHost_46 : decode cX9_writeHost 46 = .ok (.goto (-30), 3) := by decide +kernel
theorem dX9_writeHost_49 : decode cX9_writeHost 49 = .ok (.goto 69, 3) := by decide +kernel
theorem dX9_writeHost_52 : decode cX9_writeHost 52 = .ok (.aload_n 0, 1) := by decide +kernel
theorem dX9_writeHost_53 : decode cX9_writeHost 53 = .ok (.getfield 24, 3) := by decide +kernel
theorem dX9_writeHost_56 : decode cX9_writeHost 56 = .ok (.iload_n 1, 1) := by decide +kernel
theorem dX9_writeHost_57 : decode cX9_writeHost 57 = .ok (.iaload, 1) := by decide +kernel
theorem dX9_writeHost_58 : decode cX9_writeHost 58 = .ok (.iconst 4, 1) := by decide +kernel
theorem dX9_writeHost_59 : decode cX9_writeHost 59 = .ok (.if_icmp .ne 54, 3) := by decide +kernel
theorem dX9_writeHost_62 : decode cX9_writeHost 62 = .ok (.iconst 0, 1) := by decide +kernel
theorem dX9_writeHost_63 : decode cX9_writeHost 63 = .ok (.istore_n 2, 1) := by decide +kernel
theorem dX9_writeHost_64 : decode cX9_writeHost 64 = .ok (.iload_n 2, 1) := by decide +kernel
theorem dX9_writeHost_65 : decode cX9_writeHost 65 = .ok (.iconst 4, 1) := by decide +kernel
theorem dX9_writeHost_66 : decode cX9_writeHost 66 = .ok (.if_icmp .ge 44, 3) := by decide +kernel
theorem dX9_writeHost_69 : decode cX9_writeHost 69 = .ok (.iload_n 2, 1) := by decide +kernel
theorem dX9_writeHost_70 : decode cX9_writeHost 70 = .ok (.ifCond .le 9, 3) := by decide +kernel
theorem dX9_writeHost_73 : decode cX9_writeHost 73 = .ok (.aload_n 0, 1) := by decide +kernel
theorem dX9_writeHost_74 : decode cX9_writeHost 74 = .ok (.bipush 46, 2) := by decide +kernel
theorem dX9_writeHost_76 : decode cX9_writeHost 76 = .ok (.invokevirtual 269, 3) := by decide +kernel
theorem dX9_writeHost_79 : decode cX9_writeHost 79 = .ok (.aload_n 0, 1) := by decide +kernel
theorem dX9_writeHost_80 : decode cX9_writeHost 80 = .ok (.aload_n 0, 1) := by decide +kernel
theorem dX9_writeHost_81 : decode cX9_writeHost 81 = .ok (.getfield 27, 3) := by decide +kernel
theorem dX9_writeHost_84 : decode cX9_writeHost 84 = .ok (.bipush 8, 2) := by decide +kernel
theorem dX9_writeHost_86 : decode cX9_writeHost 86 = .ok (.iload_n 1, 1) := by decide +kernel
theorem dX9_writeHost_87 : decode cX9_writeHost 87 = .ok (.imul, 1) := by decide +kernel
theorem dX9_writeHost_88 : decode cX9_writeHost 88 = .ok (.iaload, 1) := by decide +kernel
theorem dX9_writeHost_89 : decode cX9_writeHost 89 = .ok (.bipush 24, 2) := by decide +kernel
theorem dX9_writeHost_91 : decode cX9_writeHost 91 = .ok (.bipush 8, 2) := by decide +kernel
theorem dX9_writeHost_93 : decode cX9_writeHost 93 = .ok (.iload_n 2, 1) := by decide +kernel
theorem dX9_writeHost_94 : decode cX9_writeHost 94 = .ok (.imul, 1) := by decide +kernel
theorem dX9_writeHost_95 : decode cX9_writeHost 95 = .ok (.isub, 1) := by decide +kernel
theorem dX9_writeHost_96 : decode cX9_writeHost 96 = .ok (.ishr, 1) := by decide +kernel
theorem dX9_writeHost_97 : decode cX9_writeHost 97 = .ok (.sipush 255, 3) := by decide +kernel
theorem dX9_writeHost_100 : decode cX9_writeHost 100 = .ok (.iand, 1) := by decide +kernel
theorem dX9_writeHost_101 : decode cX9_writeHost 101 = .ok (.invokevirtual 272, 3) := by decide +kernel
theorem dX9_writeHost_104 : decode cX9_writeHost 104 = .ok (.iinc 2 1, 3) := by decide +kernel
theorem dX9_writeHost_107 : decode cX9_writeHost 107 = .ok (.goto (-43), 3) := by decide +kernel
theorem dX9_writeHost_110 : decode cX9_writeHost 110 = .ok (.goto 8, 3) := by decide +kernel
theorem dX9_writeHost_113 : decode cX9_writeHost 113 = .ok (.aload_n 0, 1) := by decide +kernel
theorem dX9_writeHost_114 : decode cX9_writeHost 114 = .ok (.iload_n 1, 1) := by decide +kernel
theorem dX9_writeHost_115 : decode cX9_writeHost 115 = .ok (.invokevirtual 275, 3) := by decide +kernel
theorem dX9_writeHost_118 : decode cX9_writeHost 118 = .ok (.return_, 1) := by decide +kernel
theorem dX9_digitsOf_0 : decode cX9_digitsOf 0 = .ok (.iload_n 0, 1) := by decide +kernel
theorem dX9_digitsOf_1 : decode cX9_digitsOf 1 = .ok (.sipush 9999, 3) := by decide +kernel
theorem dX9_digitsOf_4 : decode cX9_digitsOf 4 = .ok (.if_icmp .le 7, 3) := by decide +kernel
theorem dX9_digitsOf_7 : decode cX9_digitsOf 7 = .ok (.iconst 5, 1) := by decide +kernel
theorem dX9_digitsOf_8 : decode cX9_digitsOf 8 = .ok (.goto 35, 3) := by decide +kernel
theorem dX9_digitsOf_11 : decode cX9_digitsOf 11 = .ok (.iload_n 0, 1) := by decide +kernel
theorem dX9_digitsOf_12 : decode cX9_digitsOf 12 = .ok (.sipush 999, 3) := by decide +kernel
theorem dX9_digitsOf_15 : decode cX9_digitsOf 15 = .ok (.if_icmp .le 7, 3) := by decide +kernel
theorem dX9_digitsOf_18 : decode cX9_digitsOf 18 = .ok (.iconst 4, 1) := by decide +kernel
theorem dX9_digitsOf_19 : decode cX9_digitsOf 19 = .ok (.goto 24, 3) := by decide +kernel
theorem dX9_digitsOf_22 : decode cX9_digitsOf 22 = .ok (.iload_n 0, 1) := by decide +kernel
theorem dX9_digitsOf_23 : decode cX9_digitsOf 23 = .ok (.bipush 99, 2) := by decide +kernel
theorem dX9_digitsOf_25 : decode cX9_digitsOf 25 = .ok (.if_icmp .le 7, 3) := by decide +kernel
theorem dX9_digitsOf_28 : decode cX9_digitsOf 28 = .ok (.iconst 3, 1) := by decide +kernel
theorem dX9_digitsOf_29 : decode cX9_digitsOf 29 = .ok (.goto 14, 3) := by decide +kernel
theorem dX9_digitsOf_32 : decode cX9_digitsOf 32 = .ok (.iload_n 0, 1) := by decide +kernel
theorem dX9_digitsOf_33 : decode cX9_digitsOf 33 = .ok (.bipush 9, 2) := by decide +kernel
theorem dX9_digitsOf_35 : decode cX9_digitsOf 35 = .ok (.if_icmp .le 7, 3) := by decide +kernel
theorem dX9_digitsOf_38 : decode cX9_digitsOf 38 = .ok (.iconst 2, 1) := by decide +kernel
theorem dX9_digitsOf_39 : decode cX9_digitsOf 39 = .ok (.goto 4, 3) := by decide +kernel
theorem dX9_digitsOf_42 : decode cX9_digitsOf 42 = .ok (.iconst 1, 1) := by decide +kernel
theorem dX9_digitsOf_43 : decode cX9_digitsOf 43 = .ok (.ireturn, 1) := by decide +kernel
def f_X9_readRelative_101  (x0 : Option Nat) (x1 : Int32) : gM Unit := gb (nn 8 x0) fun _ => gb (f_X9_readTail x0 x1) fun _ => gp ()
def f_X9_readRelative_76  (x0 : Option Nat) (x1 : Int32) (x2 : Int32) (x3 : Int32) : gM Unit := if x3 = 63 then (f_X9_readRelative_101  x0 x1) else (gb (nn 8 x0) fun _ => gb (f_X9_copyPart x0 x2 4 4) fun _ => gb (rR 8 7 x0) fun v1 => gb (rR 8 7 x0) fun v2 => gb (aI 2 v2 x2) fun v3 => gb (sI 2 v1 4 v3) fun _ => f_X9_readRelative_101  x0 x1)
def f_X9_readRelative_34  (x0 : Option Nat) (x1 : Int32) (x2 : Int32) (x3 : Int32) : gM Unit := gb (nn 8 x0) fun _ => gb (f_X9_copyHost x0 x2 4) fun _ => gb (f_X9_isSlash x3) fun v1 => if v1 = 0 then (gb (nn 8 x0) fun _ => gb (f_X9_copyPart x0 x2 4 3) fun _ => if x3 = 63 then (f_X9_readRelative_76  x0 x1 x2 x3) else (if x3 = 35 then (f_X9_readRelative_76  x0 x1 x2 x3) else (if 0 ≤ x3 then (gb (nn 8 x0) fun _ => gb (f_X9_dropSegment x0) fun _ => gb (nn 8 x0) fun _ => gb (f_X9_readPath x0 x1) fun _ => gp ()) else (f_X9_readRelative_76  x0 x1 x2 x3)))) else (gb (nn 8 x0) fun _ => gb (f_X9_readPath x0 x1) fun _ => gp ())
def f_X9_readRelative  (a0 : Option Nat) (a1 : Int32) (a2 : Int32) : gM Unit := gb (nn 8 a0) fun _ => gb (f_X9_byteAt a0 a1) fun v1 => gb (f_X9_isSlash v1) fun v2 => if v2 = 0 then (f_X9_readRelative_34  a0 a1 a2 v1) else (gb (nn 8 a0) fun _ => gb (f_X9_byteAt a0 (a1 + 1)) fun v3 => gb (f_X9_isSlash v3) fun v4 => if v4 = 0 then (f_X9_readRelative_34  a0 a1 a2 v1) else (gb (nn 8 a0) fun _ => gb (f_X9_readSlashes a0 (a1 + 1)) fun _ => gp ()))
section S_X9_readRelative
variable {G : gX} {p : Program} {l : Launch} {e : Env} {s : State} {m : MethodId} {args : Array Value} {below : List Frame} {meth : Method} {c : Code} {mc ms : Nat} {y : Unit × gS}
set_option maxHeartbeats 4000000 in
set_option maxRecDepth 100000 in
theorem w_X9_readRelative_101 (C : gC G p s m args meth c cX9_readRelative 4 RX9) (hr : meth.sig.returnType = none)  (x0 : Option Nat) (x1 : Int32) : gJ G p l e 7 175 mc ms s m args below meth c grv y 4 101 [(0, va_rf x0), (1, .int x1)] [] (f_X9_readRelative_101  x0 x1) := by
  have hx := C.1
  have hb := C.2.1
  intro σ H locs cells slots ls hf I hl
  unfold f_X9_readRelative_101 at hf
  refine gw_aload_n hx hb dX9_readRelative_101 rfl (lv_at hl 0 rfl) ?_
  refine lv_iload_n hx hb dX9_readRelative_102 rfl (lv_at hl 1 rfl) ?_
  refine gw_callV (rest := []) C I hl.1 gcls_8 (m_X9_readTail G l x0 x1) gl_RX9_194 gn_X9_readTail ⟨Nat.le_of_ble_eq_true rfl, Nat.le_of_ble_eq_true rfl⟩ rfl (gc4 (Nat.le_of_ble_eq_true rfl)) rfl dX9_readRelative_103 hf (fun _ σ H locs cells slots I hf => ?_)
  refine W.eq (g2 := F0 m 106 ls []) rfl ?_
  exact gw_vret C I hr dX9_readRelative_106 hf
set_option maxHeartbeats 4000000 in
set_option maxRecDepth 100000 in
theorem w_X9_readRelative_76 (C : gC G p s m args meth c cX9_readRelative 4 RX9) (hr : meth.sig.returnType = none)  (x0 : Option Nat) (x1 : Int32) (x2 : Int32) (x3 : Int32) : gJ G p l e 7 175 mc ms s m args below meth c grv y 4 76 [(0, va_rf x0), (1, .int x1), (2, .int x2), (3, .int x3)] [] (f_X9_readRelative_76  x0 x1 x2 x3) := by
  have hx := C.1
  have hb := C.2.1
  intro σ H locs cells slots ls hf I hl
  unfold f_X9_readRelative_76 at hf
  refine lv_iload_n hx hb dX9_readRelative_76 rfl (lv_at hl 3 rfl) ?_
  refine lv_bipush (v := 63) hx hb dX9_readRelative_77 kc_b_63 ?_
  refine lv_icmp_eq (tgt := 101) hx hb dX9_readRelative_79 (by decide) (fun hq => ?_) (fun hq => ?_)
  · have hf := gift hq hf
    exact w_X9_readRelative_101 C hr  x0 x1 _ _ _ _ _ _ hf I (lv_sub hl [0, 1] rfl)
  · have hf := giff hq hf
    refine gw_aload_n hx hb dX9_readRelative_82 rfl (lv_at hl 0 rfl) ?_
    refine lv_iload_n hx hb dX9_readRelative_83 rfl (lv_at hl 2 rfl) ?_
    refine lv_iconst (v := 4) hx hb dX9_readRelative_84 kc_i_4 ?_
    refine lv_iconst (v := 4) hx hb dX9_readRelative_85 kc_i_4 ?_
    refine gw_callV (rest := []) C I hl.1 gcls_8 (m_X9_copyPart G l x0 x2 4 4) gl_RX9_114 gn_X9_copyPart ⟨Nat.le_of_ble_eq_true rfl, Nat.le_of_ble_eq_true rfl⟩ rfl (gc4 (Nat.le_of_ble_eq_true rfl)) rfl dX9_readRelative_86 hf (fun _ σ H locs cells slots I hf => ?_)
    refine W.eq (g2 := F0 m 89 ls []) rfl ?_
    refine gw_aload_n hx hb dX9_readRelative_89 rfl (lv_at hl 0 rfl) ?_
    refine gw_getr (k := 7) C I gcls_8 (by decide) rfl kw_171 dX9_readRelative_90 hf (fun v1 hf => ?_)
    refine lv_iconst (v := 4) hx hb dX9_readRelative_93 kc_i_4 ?_
    refine gw_aload_n hx hb dX9_readRelative_94 rfl (lv_at hl 0 rfl) ?_
    refine gw_getr (k := 7) C I gcls_8 (by decide) rfl kw_171 dX9_readRelative_95 hf (fun v2 hf => ?_)
    refine lv_iload_n hx hb dX9_readRelative_98 rfl (lv_at hl 2 rfl) ?_
    refine gw_zald C I dX9_readRelative_99 hf (fun v3 hf => ?_)
    refine gw_zast C I dX9_readRelative_100 hf (fun σ H locs I hf => ?_)
    exact w_X9_readRelative_101 C hr  x0 x1 _ _ _ _ _ _ hf I (lv_sub hl [0, 1] rfl)
set_option maxHeartbeats 4000000 in
set_option maxRecDepth 100000 in
theorem w_X9_readRelative_34 (C : gC G p s m args meth c cX9_readRelative 4 RX9) (hr : meth.sig.returnType = none)  (x0 : Option Nat) (x1 : Int32) (x2 : Int32) (x3 : Int32) : gJ G p l e 7 175 mc ms s m args below meth c grv y 4 34 [(0, va_rf x0), (1, .int x1), (2, .int x2), (3, .int x3)] [] (f_X9_readRelative_34  x0 x1 x2 x3) := by
  have hx := C.1
  have hb := C.2.1
  intro σ H locs cells slots ls hf I hl
  unfold f_X9_readRelative_34 at hf
  refine gw_aload_n hx hb dX9_readRelative_34 rfl (lv_at hl 0 rfl) ?_
  refine lv_iload_n hx hb dX9_readRelative_35 rfl (lv_at hl 2 rfl) ?_
  refine lv_iconst (v := 4) hx hb dX9_readRelative_36 kc_i_4 ?_
  refine gw_callV (rest := []) C I hl.1 gcls_8 (m_X9_copyHost G l x0 x2 4) gl_RX9_173 gn_X9_copyHost ⟨Nat.le_of_ble_eq_true rfl, Nat.le_of_ble_eq_true rfl⟩ rfl (gc4 (Nat.le_of_ble_eq_true rfl)) rfl dX9_readRelative_37 hf (fun _ σ H locs cells slots I hf => ?_)
  refine W.eq (g2 := F0 m 40 ls []) rfl ?_
  refine lv_iload_n hx hb dX9_readRelative_40 rfl (lv_at hl 3 rfl) ?_
  refine gw_callS (rest := []) C I hl.1 (m_X9_isSlash G l x3) gl_RX9_188 kw_201 ⟨Nat.le_of_ble_eq_true rfl, Nat.le_of_ble_eq_true rfl⟩ rfl (gc4 (Nat.le_of_ble_eq_true rfl)) rfl dX9_readRelative_41 hf (fun v1 σ H locs cells slots I hf => ?_)
  refine W.eq (g2 := F0 m 44 ls [.int v1]) rfl ?_
  refine lv_if_eq (tgt := 53) hx hb dX9_readRelative_44 (by decide) (fun hq => ?_) (fun hq => ?_)
  · have hf := gift hq hf
    refine gw_aload_n hx hb dX9_readRelative_53 rfl (lv_at hl 0 rfl) ?_
    refine lv_iload_n hx hb dX9_readRelative_54 rfl (lv_at hl 2 rfl) ?_
    refine lv_iconst (v := 4) hx hb dX9_readRelative_55 kc_i_4 ?_
    refine lv_iconst (v := 3) hx hb dX9_readRelative_56 kc_i_3 ?_
    refine gw_callV (rest := []) C I hl.1 gcls_8 (m_X9_copyPart G l x0 x2 4 3) gl_RX9_114 gn_X9_copyPart ⟨Nat.le_of_ble_eq_true rfl, Nat.le_of_ble_eq_true rfl⟩ rfl (gc4 (Nat.le_of_ble_eq_true rfl)) rfl dX9_readRelative_57 hf (fun _ σ H locs cells slots I hf => ?_)
    refine W.eq (g2 := F0 m 60 ls []) rfl ?_
    refine lv_iload_n hx hb dX9_readRelative_60 rfl (lv_at hl 3 rfl) ?_
    refine lv_bipush (v := 63) hx hb dX9_readRelative_61 kc_b_63 ?_
    refine lv_icmp_eq (tgt := 76) hx hb dX9_readRelative_63 (by decide) (fun hq => ?_) (fun hq => ?_)
    · have hf := gift hq hf
      exact w_X9_readRelative_76 C hr  x0 x1 x2 x3 _ _ _ _ _ _ hf I (lv_sub hl [0, 1, 2, 3] rfl)
    · have hf := giff hq hf
      refine lv_iload_n hx hb dX9_readRelative_66 rfl (lv_at hl 3 rfl) ?_
      refine lv_bipush (v := 35) hx hb dX9_readRelative_67 kc_b_35 ?_
      refine lv_icmp_eq (tgt := 76) hx hb dX9_readRelative_69 (by decide) (fun hq => ?_) (fun hq => ?_)
      · have hf := gift hq hf
        exact w_X9_readRelative_76 C hr  x0 x1 x2 x3 _ _ _ _ _ _ hf I (lv_sub hl [0, 1, 2, 3] rfl)
      · have hf := giff hq hf
        refine lv_iload_n hx hb dX9_readRelative_72 rfl (lv_at hl 3 rfl) ?_
        refine lv_if_ge (tgt := 107) hx hb dX9_readRelative_73 (by decide) (fun hq => ?_) (fun hq => ?_)
        · have hf := gift hq hf
          refine gw_aload_n hx hb dX9_readRelative_107 rfl (lv_at hl 0 rfl) ?_
          refine gw_callV (rest := []) C I hl.1 gcls_8 (m_X9_dropSegment G l x0) gl_RX9_197 gn_X9_dropSegment ⟨Nat.le_of_ble_eq_true rfl, Nat.le_of_ble_eq_true rfl⟩ rfl (gc4 (Nat.le_of_ble_eq_true rfl)) rfl dX9_readRelative_108 hf (fun _ σ H locs cells slots I hf => ?_)
          refine W.eq (g2 := F0 m 111 ls []) rfl ?_
          refine gw_aload_n hx hb dX9_readRelative_111 rfl (lv_at hl 0 rfl) ?_
          refine lv_iload_n hx hb dX9_readRelative_112 rfl (lv_at hl 1 rfl) ?_
          refine gw_callV (rest := []) C I hl.1 gcls_8 (m_X9_readPath G l x0 x1) gl_RX9_191 gn_X9_readPath ⟨Nat.le_of_ble_eq_true rfl, Nat.le_of_ble_eq_true rfl⟩ rfl (gc4 (Nat.le_of_ble_eq_true rfl)) rfl dX9_readRelative_113 hf (fun _ σ H locs cells slots I hf => ?_)
          refine W.eq (g2 := F0 m 116 ls []) rfl ?_
          exact gw_vret C I hr dX9_readRelative_116 hf
        · have hf := giff hq hf
          exact w_X9_readRelative_76 C hr  x0 x1 x2 x3 _ _ _ _ _ _ hf I (lv_sub hl [0, 1, 2, 3] rfl)
  · have hf := giff hq hf
    refine gw_aload_n hx hb dX9_readRelative_47 rfl (lv_at hl 0 rfl) ?_
    refine lv_iload_n hx hb dX9_readRelative_48 rfl (lv_at hl 1 rfl) ?_
    refine gw_callV (rest := []) C I hl.1 gcls_8 (m_X9_readPath G l x0 x1) gl_RX9_191 gn_X9_readPath ⟨Nat.le_of_ble_eq_true rfl, Nat.le_of_ble_eq_true rfl⟩ rfl (gc4 (Nat.le_of_ble_eq_true rfl)) rfl dX9_readRelative_49 hf (fun _ σ H locs cells slots I hf => ?_)
    refine W.eq (g2 := F0 m 52 ls []) rfl ?_
    exact gw_vret C I hr dX9_readRelative_52 hf
set_option maxHeartbeats 4000000 in
set_option maxRecDepth 100000 in
theorem w_X9_readRelative_0 (C : gC G p s m args meth c cX9_readRelative 4 RX9) (hr : meth.sig.returnType = none)  (a0 : Option Nat) (a1 : Int32) (a2 : Int32) : gJ G p l e 7 175 mc ms s m args below meth c grv y 4 0 [(0, va_rf a0), (1, .int a1), (2, .int a2)] [] (f_X9_readRelative  a0 a1 a2) := by
  have hx := C.1
  have hb := C.2.1
  intro σ H locs cells slots ls hf I hl
  unfold f_X9_readRelative at hf
  refine gw_aload_n hx hb dX9_readRelative_0 rfl (lv_at hl 0 rfl) ?_
  refine lv_iload_n hx hb dX9_readRelative_1 rfl (lv_at hl 1 rfl) ?_
  refine gw_callV (rest := []) C I hl.1 gcls_8 (m_X9_byteAt G l a0 a1) gl_RX9_151 gn_X9_byteAt ⟨Nat.le_of_ble_eq_true rfl, Nat.le_of_ble_eq_true rfl⟩ rfl (gc4 (Nat.le_of_ble_eq_true rfl)) rfl dX9_readRelative_2 hf (fun v1 σ H locs cells slots I hf => ?_)
  refine W.eq (g2 := F0 m 5 ls [.int v1]) rfl ?_
  refine lv_istore_n (lv' := [(3, .int v1), (0, va_rf a0), (1, .int a1), (2, .int a2)]) hx hb dX9_readRelative_5 rfl hl (by decide) rfl (fun ls hl => ?_)
  refine lv_iload_n hx hb dX9_readRelative_6 rfl (lv_at hl 0 rfl) ?_
  refine gw_callS (rest := []) C I hl.1 (m_X9_isSlash G l v1) gl_RX9_188 kw_201 ⟨Nat.le_of_ble_eq_true rfl, Nat.le_of_ble_eq_true rfl⟩ rfl (gc4 (Nat.le_of_ble_eq_true rfl)) rfl dX9_readRelative_7 hf (fun v2 σ H locs cells slots I hf => ?_)
  refine W.eq (g2 := F0 m 10 ls [.int v2]) rfl ?_
  refine lv_if_eq (tgt := 34) hx hb dX9_readRelative_10 (by decide) (fun hq => ?_) (fun hq => ?_)
  · have hf := gift hq hf
    exact w_X9_readRelative_34 C hr  a0 a1 a2 v1 _ _ _ _ _ _ hf I (lv_sub hl [1, 2, 3, 0] rfl)
  · have hf := giff hq hf
    refine gw_aload_n hx hb dX9_readRelative_13 rfl (lv_at hl 1 rfl) ?_
    refine lv_iload_n hx hb dX9_readRelative_14 rfl (lv_at hl 2 rfl) ?_
    refine lv_iconst (v := 1) hx hb dX9_readRelative_15 kc_i_1 ?_
    refine lv_iadd hx hb dX9_readRelative_16 ?_
    refine gw_callV (rest := []) C I hl.1 gcls_8 (m_X9_byteAt G l a0 (a1 + 1)) gl_RX9_151 gn_X9_byteAt ⟨Nat.le_of_ble_eq_true rfl, Nat.le_of_ble_eq_true rfl⟩ rfl (gc4 (Nat.le_of_ble_eq_true rfl)) rfl dX9_readRelative_17 hf (fun v3 σ H locs cells slots I hf => ?_)
    refine W.eq (g2 := F0 m 20 ls [.int v3]) rfl ?_
    refine gw_callS (rest := []) C I hl.1 (m_X9_isSlash G l v3) gl_RX9_188 kw_201 ⟨Nat.le_of_ble_eq_true rfl, Nat.le_of_ble_eq_true rfl⟩ rfl (gc4 (Nat.le_of_ble_eq_true rfl)) rfl dX9_readRelative_20 hf (fun v4 σ H locs cells slots I hf => ?_)
    refine W.eq (g2 := F0 m 23 ls [.int v4]) rfl ?_
    refine lv_if_eq (tgt := 34) hx hb dX9_readRelative_23 (by decide) (fun hq => ?_) (fun hq => ?_)
    · have hf := gift hq hf
      exact w_X9_readRelative_34 C hr  a0 a1 a2 v1 _ _ _ _ _ _ hf I (lv_sub hl [1, 2, 3, 0] rfl)
    · have hf := giff hq hf
      refine gw_aload_n hx hb dX9_readRelative_26 rfl (lv_at hl 1 rfl) ?_
      refine lv_iload_n hx hb dX9_readRelative_27 rfl (lv_at hl 2 rfl) ?_
      refine lv_iconst (v := 1) hx hb dX9_readRelative_28 kc_i_1 ?_
      refine lv_iadd hx hb dX9_readRelative_29 ?_
      refine gw_callV (rest := []) C I hl.1 gcls_8 (m_X9_readSlashes G l a0 (a1 + 1)) gl_RX9_185 gn_X9_readSlashes ⟨Nat.le_of_ble_eq_true rfl, Nat.le_of_ble_eq_true rfl⟩ rfl (gc4 (Nat.le_of_ble_eq_true rfl)) rfl dX9_readRelative_30 hf (fun _ σ H locs cells slots I hf => ?_)
      refine W.eq (g2 := F0 m 33 ls []) rfl ?_
      exact gw_vret C I hr dX9_readRelative_33 hf
end S_X9_readRelative
theorem m_X9_readRelative (G : gX) (l : Launch) (a0 : Option Nat) (a1 : Int32) (a2 : Int32) : gMet G l yX9_readRelative cX9_readRelative 4 none 7 175 [va_rf a0, .int a1, .int a2] grv (f_X9_readRelative a0 a1 a2) := by
  refine gMet_of (by decide) ?_
  intro σ y p e s m below meth c mc ms hf C hr hnm I
  obtain ⟨ls, e1, hl⟩ := gentry m [va_rf a0, .int a1, .int a2] 4 [(0, va_rf a0), (1, .int a1), (2, .int a2)] (by simp [lg_sl, grc, gcat_i, gcat_l]) (by simp [lv_args, grc, gcat_i, gcat_l])
  rw [e1]
  exact w_X9_readRelative_0 C hr a0 a1 a2 _ _ _ _ _ _ hf I hl
def f_X9_readScheme_87  (x0 : Option Nat) (x1 : Int32) : gM Unit := if 0 ≤ x1 then (gb (rR 8 3 x0) fun v1 => gb (rR 8 3 x0) fun v2 => gb (aI 1 v2 x1) fun v3 => gb (sI 1 v1 4 v3) fun _ => gb (nn 8 x0) fun _ => gb (f_X9_readRelative x0 0 x1) fun _ => gp ()) else (gb (wI 8 13 x0 (-11)) fun _ => gp ())
def f_X9_readScheme_230  (x0 : Option Nat) (x2 : Int32) : gM Unit := gb (nn 8 x0) fun _ => gb (f_X9_readSlashes x0 (x2 + 1)) fun _ => gp ()
def f_X9_readScheme_198  (x0 : Option Nat) (x1 : Int32) (x2 : Int32) (x3 : Int32) (s0 : Int32) : gM Unit := if x1 < 0 then (f_X9_readScheme_230  x0 x2) else (gb (rR 8 3 x0) fun v1 => gb (aI 1 v1 x1) fun v2 => if v2 = x3 then (if s0 = 0 then (gb (nn 8 x0) fun _ => gb (f_X9_readRelative x0 (x2 + 1) x1) fun _ => gp ()) else (f_X9_readScheme_230  x0 x2)) else (f_X9_readScheme_230  x0 x2))
def f_X9_readScheme_197  (x0 : Option Nat) (x1 : Int32) (x2 : Int32) (x3 : Int32) : gM Unit := f_X9_readScheme_198  x0 x1 x2 x3 0
def f_X9_readScheme_122 (rec122 : Option Nat → Int32 → Int32 → Int32 → Int32 → gM Unit) (x0 : Option Nat) (x1 : Int32) (x2 : Int32) (x3 : Int32) (x4 : Int32) : gM Unit := if 5 ≤ x4 then (if 0 ≤ x3 then (gb (rR 8 3 x0) fun v1 => gb (sI 1 v1 4 x3) fun _ => gb (nn 8 x0) fun _ => gb (f_X9_byteAt x0 (x2 + 1)) fun v2 => if v2 = 47 then (gb (nn 8 x0) fun _ => gb (f_X9_byteAt x0 (x2 + 2)) fun v3 => if v3 = 47 then (f_X9_readScheme_198  x0 x1 x2 x3 1) else (f_X9_readScheme_197  x0 x1 x2 x3)) else (f_X9_readScheme_197  x0 x1 x2 x3)) else (gb (wI 8 13 x0 (-12)) fun _ => gp ())) else (gb (nn 8 x0) fun _ => gb (f_X9_isWord x0 x2 x4) fun v4 => if v4 = 0 then (rec122 x0 x1 x2 x3 (x4 + 1)) else (rec122 x0 x1 x2 x4 (x4 + 1)))
def f_X9_readScheme_L122  : Nat → Option Nat → Int32 → Int32 → Int32 → Int32 → gM Unit
  | 0, _, _, _, _, _ => gno
  | n + 1, x0, x1, x2, x3, x4 => f_X9_readScheme_122  (f_X9_readScheme_L122  n) x0 x1 x2 x3 x4
def f_X9_readScheme_73  (x0 : Option Nat) (x1 : Int32) (x2 : Int32) : gM Unit := if x2 = 0 then (f_X9_readScheme_87  x0 x1) else (gb (nn 8 x0) fun _ => gb (f_X9_byteAt x0 x2) fun v1 => if v1 = 58 then (f_X9_readScheme_L122  gF x0 x1 x2 (-1) 0) else (f_X9_readScheme_87  x0 x1))
def f_X9_readScheme_15 (rec15 : Option Nat → Int32 → Int32 → gM Unit) (x0 : Option Nat) (x1 : Int32) (x2 : Int32) : gM Unit := gb (nn 8 x0) fun _ => gb (f_X9_byteAt x0 x2) fun v1 => gb (f_X9_isLetter v1) fun v2 => if v2 = 0 then (gb (nn 8 x0) fun _ => gb (f_X9_byteAt x0 x2) fun v3 => gb (f_X9_isDigit v3) fun v4 => if v4 = 0 then (gb (nn 8 x0) fun _ => gb (f_X9_byteAt x0 x2) fun v5 => if v5 = 43 then (rec15 x0 x1 (x2 + 1)) else (gb (nn 8 x0) fun _ => gb (f_X9_byteAt x0 x2) fun v6 => if v6 = 45 then (rec15 x0 x1 (x2 + 1)) else (gb (nn 8 x0) fun _ => gb (f_X9_byteAt x0 x2) fun v7 => if v7 = 46 then (rec15 x0 x1 (x2 + 1)) else (f_X9_readScheme_73  x0 x1 x2)))) else (rec15 x0 x1 (x2 + 1))) else (rec15 x0 x1 (x2 + 1))
def f_X9_readScheme_L15  : Nat → Option Nat → Int32 → Int32 → gM Unit
  | 0, _, _, _ => gno
  | n + 1, x0, x1, x2 => f_X9_readScheme_15  (f_X9_readScheme_L15  n) x0 x1 x2
def f_X9_readScheme  (a0 : Option Nat) (a1 : Int32) : gM Unit := gb (nn 8 a0) fun _ => gb (f_X9_byteAt a0 0) fun v1 => gb (f_X9_isLetter v1) fun v2 => if v2 = 0 then (f_X9_readScheme_73  a0 a1 0) else (f_X9_readScheme_L15  gF a0 a1 1)
section S_X9_readScheme
variable {G : gX} {p : Program} {l : Launch} {e : Env} {s : State} {m : MethodId} {args : Array Value} {below : List Frame} {meth : Method} {c : Code} {mc ms : Nat} {y : Unit × gS}
set_option maxHeartbeats 4000000 in
set_option maxRecDepth 100000 in
theorem w_X9_readScheme_87 (C : gC G p s m args meth c cX9_readScheme 5 RX9) (hr : meth.sig.returnType = none)  (x0 : Option Nat) (x1 : Int32) : gJ G p l e 8 198 mc ms s m args below meth c grv y 5 87 [(0, va_rf x0), (1, .int x1)] [] (f_X9_readScheme_87  x0 x1) := by
  have hx := C.1
  have hb := C.2.1
  intro σ H locs cells slots ls hf I hl
  unfold f_X9_readScheme_87 at hf
  refine lv_iload_n hx hb dX9_readScheme_87 rfl (lv_at hl 1 rfl) ?_
  refine lv_if_ge (tgt := 98) hx hb dX9_readScheme_88 (by decide) (fun hq => ?_) (fun hq => ?_)
  · have hf := gift hq hf
    refine gw_aload_n hx hb dX9_readScheme_98 rfl (lv_at hl 0 rfl) ?_
    refine gw_getr (k := 3) C I gcls_8 (by decide) rfl kw_167 dX9_readScheme_99 hf (fun v1 hf => ?_)
    refine lv_iconst (v := 4) hx hb dX9_readScheme_102 kc_i_4 ?_
    refine gw_aload_n hx hb dX9_readScheme_103 rfl (lv_at hl 0 rfl) ?_
    refine gw_getr (k := 3) C I gcls_8 (by decide) rfl kw_167 dX9_readScheme_104 hf (fun v2 hf => ?_)
    refine lv_iload_n hx hb dX9_readScheme_107 rfl (lv_at hl 1 rfl) ?_
    refine gw_iald C I dX9_readScheme_108 hf (fun v3 hf => ?_)
    refine gw_iast C I dX9_readScheme_109 hf (fun σ H locs I hf => ?_)
    refine gw_aload_n hx hb dX9_readScheme_110 rfl (lv_at hl 0 rfl) ?_
    refine lv_iconst (v := 0) hx hb dX9_readScheme_111 kc_i_0 ?_
    refine lv_iload_n hx hb dX9_readScheme_112 rfl (lv_at hl 1 rfl) ?_
    refine gw_callV (rest := []) C I hl.1 gcls_8 (m_X9_readRelative G l x0 0 x1) gl_RX9_179 gn_X9_readRelative ⟨Nat.le_of_ble_eq_true rfl, Nat.le_of_ble_eq_true rfl⟩ rfl (gc4 (Nat.le_of_ble_eq_true rfl)) rfl dX9_readScheme_113 hf (fun _ σ H locs cells slots I hf => ?_)
    refine W.eq (g2 := F0 m 116 ls []) rfl ?_
    exact gw_vret C I hr dX9_readScheme_116 hf
  · have hf := giff hq hf
    refine gw_aload_n hx hb dX9_readScheme_91 rfl (lv_at hl 0 rfl) ?_
    refine lv_bipush (v := (-11)) hx hb dX9_readScheme_92 kc_b_m11 ?_
    refine gw_puti (k := 13) C I gcls_8 (by decide) rfl kw_214 (Or.inl rfl) (by decide +kernel) dX9_readScheme_94 hf (fun σ H locs I hf => ?_)
    exact gw_vret C I hr dX9_readScheme_97 hf
set_option maxHeartbeats 4000000 in
set_option maxRecDepth 100000 in
theorem w_X9_readScheme_230 (C : gC G p s m args meth c cX9_readScheme 5 RX9) (hr : meth.sig.returnType = none)  (x0 : Option Nat) (x2 : Int32) : gJ G p l e 8 198 mc ms s m args below meth c grv y 5 230 [(0, va_rf x0), (2, .int x2)] [] (f_X9_readScheme_230  x0 x2) := by
  have hx := C.1
  have hb := C.2.1
  intro σ H locs cells slots ls hf I hl
  unfold f_X9_readScheme_230 at hf
  refine gw_aload_n hx hb dX9_readScheme_230 rfl (lv_at hl 0 rfl) ?_
  refine lv_iload_n hx hb dX9_readScheme_231 rfl (lv_at hl 1 rfl) ?_
  refine lv_iconst (v := 1) hx hb dX9_readScheme_232 kc_i_1 ?_
  refine lv_iadd hx hb dX9_readScheme_233 ?_
  refine gw_callV (rest := []) C I hl.1 gcls_8 (m_X9_readSlashes G l x0 (x2 + 1)) gl_RX9_185 gn_X9_readSlashes ⟨Nat.le_of_ble_eq_true rfl, Nat.le_of_ble_eq_true rfl⟩ rfl (gc4 (Nat.le_of_ble_eq_true rfl)) rfl dX9_readScheme_234 hf (fun _ σ H locs cells slots I hf => ?_)
  refine W.eq (g2 := F0 m 237 ls []) rfl ?_
  exact gw_vret C I hr dX9_readScheme_237 hf
set_option maxHeartbeats 4000000 in
set_option maxRecDepth 100000 in
theorem w_X9_readScheme_198 (C : gC G p s m args meth c cX9_readScheme 5 RX9) (hr : meth.sig.returnType = none)  (x0 : Option Nat) (x1 : Int32) (x2 : Int32) (x3 : Int32) (s0 : Int32) : gJ G p l e 8 198 mc ms s m args below meth c grv y 5 198 [(0, va_rf x0), (1, .int x1), (2, .int x2), (3, .int x3)] [.int s0] (f_X9_readScheme_198  x0 x1 x2 x3 s0) := by
  have hx := C.1
  have hb := C.2.1
  intro σ H locs cells slots ls hf I hl
  unfold f_X9_readScheme_198 at hf
  refine lv_istore (lv' := [(4, .int s0), (0, va_rf x0), (1, .int x1), (2, .int x2), (3, .int x3)]) hx hb dX9_readScheme_198 hl (by decide) rfl (fun ls hl => ?_)
  refine lv_iload_n hx hb dX9_readScheme_200 rfl (lv_at hl 2 rfl) ?_
  refine lv_if_lt (tgt := 230) hx hb dX9_readScheme_201 (by decide) (fun hq => ?_) (fun hq => ?_)
  · have hf := gift hq hf
    exact w_X9_readScheme_230 C hr  x0 x2 _ _ _ _ _ _ hf I (lv_sub hl [1, 3] rfl)
  · have hf := giff hq hf
    refine gw_aload_n hx hb dX9_readScheme_204 rfl (lv_at hl 1 rfl) ?_
    refine gw_getr (k := 3) C I gcls_8 (by decide) rfl kw_167 dX9_readScheme_205 hf (fun v1 hf => ?_)
    refine lv_iload_n hx hb dX9_readScheme_208 rfl (lv_at hl 2 rfl) ?_
    refine gw_iald C I dX9_readScheme_209 hf (fun v2 hf => ?_)
    refine lv_iload_n hx hb dX9_readScheme_210 rfl (lv_at hl 4 rfl) ?_
    refine lv_icmp_ne (tgt := 230) hx hb dX9_readScheme_211 (by decide) (fun hq => ?_) (fun hq => ?_)
    · have hf := giff hq hf
      exact w_X9_readScheme_230 C hr  x0 x2 _ _ _ _ _ _ hf I (lv_sub hl [1, 3] rfl)
    · have hf := gift hq hf
      refine lv_iload hx hb dX9_readScheme_214 (lv_at hl 0 rfl) ?_
      refine lv_if_ne (tgt := 230) hx hb dX9_readScheme_216 (by decide) (fun hq => ?_) (fun hq => ?_)
      · have hf := giff hq hf
        exact w_X9_readScheme_230 C hr  x0 x2 _ _ _ _ _ _ hf I (lv_sub hl [1, 3] rfl)
      · have hf := gift hq hf
        refine gw_aload_n hx hb dX9_readScheme_219 rfl (lv_at hl 1 rfl) ?_
        refine lv_iload_n hx hb dX9_readScheme_220 rfl (lv_at hl 3 rfl) ?_
        refine lv_iconst (v := 1) hx hb dX9_readScheme_221 kc_i_1 ?_
        refine lv_iadd hx hb dX9_readScheme_222 ?_
        refine lv_iload_n hx hb dX9_readScheme_223 rfl (lv_at hl 2 rfl) ?_
        refine gw_callV (rest := []) C I hl.1 gcls_8 (m_X9_readRelative G l x0 (x2 + 1) x1) gl_RX9_179 gn_X9_readRelative ⟨Nat.le_of_ble_eq_true rfl, Nat.le_of_ble_eq_true rfl⟩ rfl (gc4 (Nat.le_of_ble_eq_true rfl)) rfl dX9_readScheme_224 hf (fun _ σ H locs cells slots I hf => ?_)
        refine W.eq (g2 := F0 m 227 ls []) rfl ?_
        refine lv_goto (tgt := 237) hx hb dX9_readScheme_227 (by decide) ?_
        exact gw_vret C I hr dX9_readScheme_237 hf
set_option maxHeartbeats 4000000 in
set_option maxRecDepth 100000 in
theorem w_X9_readScheme_197 (C : gC G p s m args meth c cX9_readScheme 5 RX9) (hr : meth.sig.returnType = none)  (x0 : Option Nat) (x1 : Int32) (x2 : Int32) (x3 : Int32) : gJ G p l e 8 198 mc ms s m args below meth c grv y 5 197 [(0, va_rf x0), (1, .int x1), (2, .int x2), (3, .int x3)] [] (f_X9_readScheme_197  x0 x1 x2 x3) := by
  have hx := C.1
  have hb := C.2.1
  intro σ H locs cells slots ls hf I hl
  unfold f_X9_readScheme_197 at hf
  refine lv_iconst (v := 0) hx hb dX9_readScheme_197 kc_i_0 ?_
  exact w_X9_readScheme_198 C hr  x0 x1 x2 x3 0 _ _ _ _ _ _ hf I (lv_sub hl [0, 1, 2, 3] rfl)
set_option maxHeartbeats 4000000 in
set_option maxRecDepth 100000 in
theorem w_X9_readScheme_122 (C : gC G p s m args meth c cX9_readScheme 5 RX9) (hr : meth.sig.returnType = none) {rec122 : Option Nat → Int32 → Int32 → Int32 → Int32 → gM Unit} (hrec122 : ∀ (x0 : Option Nat) (x1 : Int32) (x2 : Int32) (x3 : Int32) (x4 : Int32), gJ G p l e 8 198 mc ms s m args below meth c grv y 5 122 [(0, va_rf x0), (1, .int x1), (2, .int x2), (3, .int x3), (4, .int x4)] [] (rec122 x0 x1 x2 x3 x4)) (x0 : Option Nat) (x1 : Int32) (x2 : Int32) (x3 : Int32) (x4 : Int32) : gJ G p l e 8 198 mc ms s m args below meth c grv y 5 122 [(0, va_rf x0), (1, .int x1), (2, .int x2), (3, .int x3), (4, .int x4)] [] (f_X9_readScheme_122 rec122 x0 x1 x2 x3 x4) := by
  have hx := C.1
  have hb := C.2.1
  intro σ H locs cells slots ls hf I hl
  unfold f_X9_readScheme_122 at hf
  refine lv_iload hx hb dX9_readScheme_122 (lv_at hl 4 rfl) ?_
  refine lv_iconst (v := 5) hx hb dX9_readScheme_124 kc_i_5 ?_
  refine lv_icmp_ge (tgt := 151) hx hb dX9_readScheme_125 (by decide) (fun hq => ?_) (fun hq => ?_)
  · have hf := gift hq hf
    refine lv_iload_n hx hb dX9_readScheme_151 rfl (lv_at hl 3 rfl) ?_
    refine lv_if_ge (tgt := 162) hx hb dX9_readScheme_152 (by decide) (fun hq => ?_) (fun hq => ?_)
    · have hf := gift hq hf
      refine gw_aload_n hx hb dX9_readScheme_162 rfl (lv_at hl 0 rfl) ?_
      refine gw_getr (k := 3) C I gcls_8 (by decide) rfl kw_167 dX9_readScheme_163 hf (fun v1 hf => ?_)
      refine lv_iconst (v := 4) hx hb dX9_readScheme_166 kc_i_4 ?_
      refine lv_iload_n hx hb dX9_readScheme_167 rfl (lv_at hl 3 rfl) ?_
      refine gw_iast C I dX9_readScheme_168 hf (fun σ H locs I hf => ?_)
      refine gw_aload_n hx hb dX9_readScheme_169 rfl (lv_at hl 0 rfl) ?_
      refine lv_iload_n hx hb dX9_readScheme_170 rfl (lv_at hl 2 rfl) ?_
      refine lv_iconst (v := 1) hx hb dX9_readScheme_171 kc_i_1 ?_
      refine lv_iadd hx hb dX9_readScheme_172 ?_
      refine gw_callV (rest := []) C I hl.1 gcls_8 (m_X9_byteAt G l x0 (x2 + 1)) gl_RX9_151 gn_X9_byteAt ⟨Nat.le_of_ble_eq_true rfl, Nat.le_of_ble_eq_true rfl⟩ rfl (gc4 (Nat.le_of_ble_eq_true rfl)) rfl dX9_readScheme_173 hf (fun v2 σ H locs cells slots I hf => ?_)
      refine W.eq (g2 := F0 m 176 ls [.int v2]) rfl ?_
      refine lv_bipush (v := 47) hx hb dX9_readScheme_176 kc_b_47 ?_
      refine lv_icmp_ne (tgt := 197) hx hb dX9_readScheme_178 (by decide) (fun hq => ?_) (fun hq => ?_)
      · have hf := giff hq hf
        exact w_X9_readScheme_197 C hr  x0 x1 x2 x3 _ _ _ _ _ _ hf I (lv_sub hl [0, 1, 2, 3] rfl)
      · have hf := gift hq hf
        refine gw_aload_n hx hb dX9_readScheme_181 rfl (lv_at hl 0 rfl) ?_
        refine lv_iload_n hx hb dX9_readScheme_182 rfl (lv_at hl 2 rfl) ?_
        refine lv_iconst (v := 2) hx hb dX9_readScheme_183 kc_i_2 ?_
        refine lv_iadd hx hb dX9_readScheme_184 ?_
        refine gw_callV (rest := []) C I hl.1 gcls_8 (m_X9_byteAt G l x0 (x2 + 2)) gl_RX9_151 gn_X9_byteAt ⟨Nat.le_of_ble_eq_true rfl, Nat.le_of_ble_eq_true rfl⟩ rfl (gc4 (Nat.le_of_ble_eq_true rfl)) rfl dX9_readScheme_185 hf (fun v3 σ H locs cells slots I hf => ?_)
        refine W.eq (g2 := F0 m 188 ls [.int v3]) rfl ?_
        refine lv_bipush (v := 47) hx hb dX9_readScheme_188 kc_b_47 ?_
        refine lv_icmp_ne (tgt := 197) hx hb dX9_readScheme_190 (by decide) (fun hq => ?_) (fun hq => ?_)
        · have hf := giff hq hf
          exact w_X9_readScheme_197 C hr  x0 x1 x2 x3 _ _ _ _ _ _ hf I (lv_sub hl [0, 1, 2, 3] rfl)
        · have hf := gift hq hf
          refine lv_iconst (v := 1) hx hb dX9_readScheme_193 kc_i_1 ?_
          refine lv_goto (tgt := 198) hx hb dX9_readScheme_194 (by decide) ?_
          exact w_X9_readScheme_198 C hr  x0 x1 x2 x3 1 _ _ _ _ _ _ hf I (lv_sub hl [0, 1, 2, 3] rfl)
    · have hf := giff hq hf
      refine gw_aload_n hx hb dX9_readScheme_155 rfl (lv_at hl 0 rfl) ?_
      refine lv_bipush (v := (-12)) hx hb dX9_readScheme_156 kc_b_m12 ?_
      refine gw_puti (k := 13) C I gcls_8 (by decide) rfl kw_214 (Or.inl rfl) (by decide +kernel) dX9_readScheme_158 hf (fun σ H locs I hf => ?_)
      exact gw_vret C I hr dX9_readScheme_161 hf
  · have hf := giff hq hf
    refine gw_aload_n hx hb dX9_readScheme_128 rfl (lv_at hl 0 rfl) ?_
    refine lv_iload_n hx hb dX9_readScheme_129 rfl (lv_at hl 2 rfl) ?_
    refine lv_iload hx hb dX9_readScheme_130 (lv_at hl 4 rfl) ?_
    refine gw_callV (rest := []) C I hl.1 gcls_8 (m_X9_isWord G l x0 x2 x4) gl_RX9_182 gn_X9_isWord ⟨Nat.le_of_ble_eq_true rfl, Nat.le_of_ble_eq_true rfl⟩ rfl (gc4 (Nat.le_of_ble_eq_true rfl)) rfl dX9_readScheme_132 hf (fun v4 σ H locs cells slots I hf => ?_)
    refine W.eq (g2 := F0 m 135 ls [.int v4]) rfl ?_
    refine lv_if_eq (tgt := 143) hx hb dX9_readScheme_135 (by decide) (fun hq => ?_) (fun hq => ?_)
    · have hf := gift hq hf
      refine lv_iload_n hx hb dX9_readScheme_143 rfl (lv_at hl 3 rfl) ?_
      refine lv_istore_n (lv' := [(3, .int x3), (0, va_rf x0), (1, .int x1), (2, .int x2), (4, .int x4)]) hx hb dX9_readScheme_144 rfl hl (by decide) rfl (fun ls hl => ?_)
      refine lv_iinc (v := x4 + 1) (lv' := [(4, .int (x4 + 1)), (3, .int x3), (0, va_rf x0), (1, .int x1), (2, .int x2)]) hx hb dX9_readScheme_145 hl (k := 4) rfl rfl (by decide) rfl (fun ls hl => ?_)
      refine lv_goto (tgt := 122) hx hb dX9_readScheme_148 (by decide) ?_
      exact hrec122 x0 x1 x2 x3 (x4 + 1) _ _ _ _ _ _ hf I (lv_sub hl [2, 3, 4, 1, 0] rfl)
    · have hf := giff hq hf
      refine lv_iload hx hb dX9_readScheme_138 (lv_at hl 4 rfl) ?_
      refine lv_goto (tgt := 144) hx hb dX9_readScheme_140 (by decide) ?_
      refine lv_istore_n (lv' := [(3, .int x4), (0, va_rf x0), (1, .int x1), (2, .int x2), (4, .int x4)]) hx hb dX9_readScheme_144 rfl hl (by decide) rfl (fun ls hl => ?_)
      refine lv_iinc (v := x4 + 1) (lv' := [(4, .int (x4 + 1)), (3, .int x4), (0, va_rf x0), (1, .int x1), (2, .int x2)]) hx hb dX9_readScheme_145 hl (k := 4) rfl rfl (by decide) rfl (fun ls hl => ?_)
      refine lv_goto (tgt := 122) hx hb dX9_readScheme_148 (by decide) ?_
      exact hrec122 x0 x1 x2 x4 (x4 + 1) _ _ _ _ _ _ hf I (lv_sub hl [2, 3, 4, 1, 0] rfl)
theorem w_X9_readScheme_L122 (C : gC G p s m args meth c cX9_readScheme 5 RX9) (hr : meth.sig.returnType = none)  : ∀ (n : Nat) (x0 : Option Nat) (x1 : Int32) (x2 : Int32) (x3 : Int32) (x4 : Int32), gJ G p l e 8 198 mc ms s m args below meth c grv y 5 122 [(0, va_rf x0), (1, .int x1), (2, .int x2), (3, .int x3), (4, .int x4)] [] (f_X9_readScheme_L122  n x0 x1 x2 x3 x4) := by
  intro n
  induction n with
  | zero => intro x0 x1 x2 x3 x4 σ H locs cells slots ls hf; exact (gno_some hf).elim
  | succ n ih => intro x0 x1 x2 x3 x4; exact w_X9_readScheme_122 C hr  ih x0 x1 x2 x3 x4
set_option maxHeartbeats 4000000 in
set_option maxRecDepth 100000 in
theorem w_X9_readScheme_73 (C : gC G p s m args meth c cX9_readScheme 5 RX9) (hr : meth.sig.returnType = none)  (x0 : Option Nat) (x1 : Int32) (x2 : Int32) : gJ G p l e 8 198 mc ms s m args below meth c grv y 5 73 [(0, va_rf x0), (1, .int x1), (2, .int x2)] [] (f_X9_readScheme_73  x0 x1 x2) := by
  have hx := C.1
  have hb := C.2.1
  intro σ H locs cells slots ls hf I hl
  unfold f_X9_readScheme_73 at hf
  refine lv_iload_n hx hb dX9_readScheme_73 rfl (lv_at hl 2 rfl) ?_
  refine lv_if_eq (tgt := 87) hx hb dX9_readScheme_74 (by decide) (fun hq => ?_) (fun hq => ?_)
  · have hf := gift hq hf
    exact w_X9_readScheme_87 C hr  x0 x1 _ _ _ _ _ _ hf I (lv_sub hl [0, 1] rfl)
  · have hf := giff hq hf
    refine gw_aload_n hx hb dX9_readScheme_77 rfl (lv_at hl 0 rfl) ?_
    refine lv_iload_n hx hb dX9_readScheme_78 rfl (lv_at hl 2 rfl) ?_
    refine gw_callV (rest := []) C I hl.1 gcls_8 (m_X9_byteAt G l x0 x2) gl_RX9_151 gn_X9_byteAt ⟨Nat.le_of_ble_eq_true rfl, Nat.le_of_ble_eq_true rfl⟩ rfl (gc4 (Nat.le_of_ble_eq_true rfl)) rfl dX9_readScheme_79 hf (fun v1 σ H locs cells slots I hf => ?_)
    refine W.eq (g2 := F0 m 82 ls [.int v1]) rfl ?_
    refine lv_bipush (v := 58) hx hb dX9_readScheme_82 kc_b_58 ?_
    refine lv_icmp_eq (tgt := 117) hx hb dX9_readScheme_84 (by decide) (fun hq => ?_) (fun hq => ?_)
    · have hf := gift hq hf
      refine lv_iconst (v := (-1)) hx hb dX9_readScheme_117 kc_i_m1 ?_
      refine lv_istore_n (lv' := [(3, .int (-1)), (0, va_rf x0), (1, .int x1), (2, .int x2)]) hx hb dX9_readScheme_118 rfl hl (by decide) rfl (fun ls hl => ?_)
      refine lv_iconst (v := 0) hx hb dX9_readScheme_119 kc_i_0 ?_
      refine lv_istore (lv' := [(4, .int 0), (3, .int (-1)), (0, va_rf x0), (1, .int x1), (2, .int x2)]) hx hb dX9_readScheme_120 hl (by decide) rfl (fun ls hl => ?_)
      exact w_X9_readScheme_L122 C hr  _ x0 x1 x2 (-1) 0 _ _ _ _ _ _ hf I (lv_sub hl [2, 3, 4, 1, 0] rfl)
    · have hf := giff hq hf
      exact w_X9_readScheme_87 C hr  x0 x1 _ _ _ _ _ _ hf I (lv_sub hl [0, 1] rfl)
set_option maxHeartbeats 4000000 in
set_option maxRecDepth 100000 in
theorem w_X9_readScheme_15 (C : gC G p s m args meth c cX9_readScheme 5 RX9) (hr : meth.sig.returnType = none) {rec15 : Option Nat → Int32 → Int32 → gM Unit} (hrec15 : ∀ (x0 : Option Nat) (x1 : Int32) (x2 : Int32), gJ G p l e 8 198 mc ms s m args below meth c grv y 5 15 [(0, va_rf x0), (1, .int x1), (2, .int x2)] [] (rec15 x0 x1 x2)) (x0 : Option Nat) (x1 : Int32) (x2 : Int32) : gJ G p l e 8 198 mc ms s m args below meth c grv y 5 15 [(0, va_rf x0), (1, .int x1), (2, .int x2)] [] (f_X9_readScheme_15 rec15 x0 x1 x2) := by
  have hx := C.1
  have hb := C.2.1
  intro σ H locs cells slots ls hf I hl
  unfold f_X9_readScheme_15 at hf
  refine gw_aload_n hx hb dX9_readScheme_15 rfl (lv_at hl 0 rfl) ?_
  refine lv_iload_n hx hb dX9_readScheme_16 rfl (lv_at hl 2 rfl) ?_
  refine gw_callV (rest := []) C I hl.1 gcls_8 (m_X9_byteAt G l x0 x2) gl_RX9_151 gn_X9_byteAt ⟨Nat.le_of_ble_eq_true rfl, Nat.le_of_ble_eq_true rfl⟩ rfl (gc4 (Nat.le_of_ble_eq_true rfl)) rfl dX9_readScheme_17 hf (fun v1 σ H locs cells slots I hf => ?_)
  refine W.eq (g2 := F0 m 20 ls [.int v1]) rfl ?_
  refine gw_callS (rest := []) C I hl.1 (m_X9_isLetter G l v1) gl_RX9_176 kw_217 ⟨Nat.le_of_ble_eq_true rfl, Nat.le_of_ble_eq_true rfl⟩ rfl (gc4 (Nat.le_of_ble_eq_true rfl)) rfl dX9_readScheme_20 hf (fun v2 σ H locs cells slots I hf => ?_)
  refine W.eq (g2 := F0 m 23 ls [.int v2]) rfl ?_
  refine lv_if_ne (tgt := 67) hx hb dX9_readScheme_23 (by decide) (fun hq => ?_) (fun hq => ?_)
  · have hf := giff hq hf
    refine lv_iinc (v := x2 + 1) (lv' := [(2, .int (x2 + 1)), (0, va_rf x0), (1, .int x1)]) hx hb dX9_readScheme_67 hl (k := 2) rfl rfl (by decide) rfl (fun ls hl => ?_)
    refine lv_goto (tgt := 15) hx hb dX9_readScheme_70 (by decide) ?_
    exact hrec15 x0 x1 (x2 + 1) _ _ _ _ _ _ hf I (lv_sub hl [1, 2, 0] rfl)
  · have hf := gift hq hf
    refine gw_aload_n hx hb dX9_readScheme_26 rfl (lv_at hl 0 rfl) ?_
    refine lv_iload_n hx hb dX9_readScheme_27 rfl (lv_at hl 2 rfl) ?_
    refine gw_callV (rest := []) C I hl.1 gcls_8 (m_X9_byteAt G l x0 x2) gl_RX9_151 gn_X9_byteAt ⟨Nat.le_of_ble_eq_true rfl, Nat.le_of_ble_eq_true rfl⟩ rfl (gc4 (Nat.le_of_ble_eq_true rfl)) rfl dX9_readScheme_28 hf (fun v3 σ H locs cells slots I hf => ?_)
    refine W.eq (g2 := F0 m 31 ls [.int v3]) rfl ?_
    refine gw_callS (rest := []) C I hl.1 (m_X9_isDigit G l v3) gl_RX9_95 kw_193 ⟨Nat.le_of_ble_eq_true rfl, Nat.le_of_ble_eq_true rfl⟩ rfl (gc4 (Nat.le_of_ble_eq_true rfl)) rfl dX9_readScheme_31 hf (fun v4 σ H locs cells slots I hf => ?_)
    refine W.eq (g2 := F0 m 34 ls [.int v4]) rfl ?_
    refine lv_if_ne (tgt := 67) hx hb dX9_readScheme_34 (by decide) (fun hq => ?_) (fun hq => ?_)
    · have hf := giff hq hf
      refine lv_iinc (v := x2 + 1) (lv' := [(2, .int (x2 + 1)), (0, va_rf x0), (1, .int x1)]) hx hb dX9_readScheme_67 hl (k := 2) rfl rfl (by decide) rfl (fun ls hl => ?_)
      refine lv_goto (tgt := 15) hx hb dX9_readScheme_70 (by decide) ?_
      exact hrec15 x0 x1 (x2 + 1) _ _ _ _ _ _ hf I (lv_sub hl [1, 2, 0] rfl)
    · have hf := gift hq hf
      refine gw_aload_n hx hb dX9_readScheme_37 rfl (lv_at hl 0 rfl) ?_
      refine lv_iload_n hx hb dX9_readScheme_38 rfl (lv_at hl 2 rfl) ?_
      refine gw_callV (rest := []) C I hl.1 gcls_8 (m_X9_byteAt G l x0 x2) gl_RX9_151 gn_X9_byteAt ⟨Nat.le_of_ble_eq_true rfl, Nat.le_of_ble_eq_true rfl⟩ rfl (gc4 (Nat.le_of_ble_eq_true rfl)) rfl dX9_readScheme_39 hf (fun v5 σ H locs cells slots I hf => ?_)
      refine W.eq (g2 := F0 m 42 ls [.int v5]) rfl ?_
      refine lv_bipush (v := 43) hx hb dX9_readScheme_42 kc_b_43 ?_
      refine lv_icmp_eq (tgt := 67) hx hb dX9_readScheme_44 (by decide) (fun hq => ?_) (fun hq => ?_)
      · have hf := gift hq hf
        refine lv_iinc (v := x2 + 1) (lv' := [(2, .int (x2 + 1)), (0, va_rf x0), (1, .int x1)]) hx hb dX9_readScheme_67 hl (k := 2) rfl rfl (by decide) rfl (fun ls hl => ?_)
        refine lv_goto (tgt := 15) hx hb dX9_readScheme_70 (by decide) ?_
        exact hrec15 x0 x1 (x2 + 1) _ _ _ _ _ _ hf I (lv_sub hl [1, 2, 0] rfl)
      · have hf := giff hq hf
        refine gw_aload_n hx hb dX9_readScheme_47 rfl (lv_at hl 0 rfl) ?_
        refine lv_iload_n hx hb dX9_readScheme_48 rfl (lv_at hl 2 rfl) ?_
        refine gw_callV (rest := []) C I hl.1 gcls_8 (m_X9_byteAt G l x0 x2) gl_RX9_151 gn_X9_byteAt ⟨Nat.le_of_ble_eq_true rfl, Nat.le_of_ble_eq_true rfl⟩ rfl (gc4 (Nat.le_of_ble_eq_true rfl)) rfl dX9_readScheme_49 hf (fun v6 σ H locs cells slots I hf => ?_)
        refine W.eq (g2 := F0 m 52 ls [.int v6]) rfl ?_
        refine lv_bipush (v := 45) hx hb dX9_readScheme_52 kc_b_45 ?_
        refine lv_icmp_eq (tgt := 67) hx hb dX9_readScheme_54 (by decide) (fun hq => ?_) (fun hq => ?_)
        · have hf := gift hq hf
          refine lv_iinc (v := x2 + 1) (lv' := [(2, .int (x2 + 1)), (0, va_rf x0), (1, .int x1)]) hx hb dX9_readScheme_67 hl (k := 2) rfl rfl (by decide) rfl (fun ls hl => ?_)
          refine lv_goto (tgt := 15) hx hb dX9_readScheme_70 (by decide) ?_
          exact hrec15 x0 x1 (x2 + 1) _ _ _ _ _ _ hf I (lv_sub hl [1, 2, 0] rfl)
        · have hf := giff hq hf
          refine gw_aload_n hx hb dX9_readScheme_57 rfl (lv_at hl 0 rfl) ?_
          refine lv_iload_n hx hb dX9_readScheme_58 rfl (lv_at hl 2 rfl) ?_
          refine gw_callV (rest := []) C I hl.1 gcls_8 (m_X9_byteAt G l x0 x2) gl_RX9_151 gn_X9_byteAt ⟨Nat.le_of_ble_eq_true rfl, Nat.le_of_ble_eq_true rfl⟩ rfl (gc4 (Nat.le_of_ble_eq_true rfl)) rfl dX9_readScheme_59 hf (fun v7 σ H locs cells slots I hf => ?_)
          refine W.eq (g2 := F0 m 62 ls [.int v7]) rfl ?_
          refine lv_bipush (v := 46) hx hb dX9_readScheme_62 kc_b_46 ?_
          refine lv_icmp_ne (tgt := 73) hx hb dX9_readScheme_64 (by decide) (fun hq => ?_) (fun hq => ?_)
          · have hf := giff hq hf
            exact w_X9_readScheme_73 C hr  x0 x1 x2 _ _ _ _ _ _ hf I (lv_sub hl [0, 1, 2] rfl)
          · have hf := gift hq hf
            refine lv_iinc (v := x2 + 1) (lv' := [(2, .int (x2 + 1)), (0, va_rf x0), (1, .int x1)]) hx hb dX9_readScheme_67 hl (k := 2) rfl rfl (by decide) rfl (fun ls hl => ?_)
            refine lv_goto (tgt := 15) hx hb dX9_readScheme_70 (by decide) ?_
            exact hrec15 x0 x1 (x2 + 1) _ _ _ _ _ _ hf I (lv_sub hl [1, 2, 0] rfl)
theorem w_X9_readScheme_L15 (C : gC G p s m args meth c cX9_readScheme 5 RX9) (hr : meth.sig.returnType = none)  : ∀ (n : Nat) (x0 : Option Nat) (x1 : Int32) (x2 : Int32), gJ G p l e 8 198 mc ms s m args below meth c grv y 5 15 [(0, va_rf x0), (1, .int x1), (2, .int x2)] [] (f_X9_readScheme_L15  n x0 x1 x2) := by
  intro n
  induction n with
  | zero => intro x0 x1 x2 σ H locs cells slots ls hf; exact (gno_some hf).elim
  | succ n ih => intro x0 x1 x2; exact w_X9_readScheme_15 C hr  ih x0 x1 x2
set_option maxHeartbeats 4000000 in
set_option maxRecDepth 100000 in
theorem w_X9_readScheme_0 (C : gC G p s m args meth c cX9_readScheme 5 RX9) (hr : meth.sig.returnType = none)  (a0 : Option Nat) (a1 : Int32) : gJ G p l e 8 198 mc ms s m args below meth c grv y 5 0 [(0, va_rf a0), (1, .int a1)] [] (f_X9_readScheme  a0 a1) := by
  have hx := C.1
  have hb := C.2.1
  intro σ H locs cells slots ls hf I hl
  unfold f_X9_readScheme at hf
  refine lv_iconst (v := 0) hx hb dX9_readScheme_0 kc_i_0 ?_
  refine lv_istore_n (lv' := [(2, .int 0), (0, va_rf a0), (1, .int a1)]) hx hb dX9_readScheme_1 rfl hl (by decide) rfl (fun ls hl => ?_)
  refine gw_aload_n hx hb dX9_readScheme_2 rfl (lv_at hl 1 rfl) ?_
  refine lv_iconst (v := 0) hx hb dX9_readScheme_3 kc_i_0 ?_
  refine gw_callV (rest := []) C I hl.1 gcls_8 (m_X9_byteAt G l a0 0) gl_RX9_151 gn_X9_byteAt ⟨Nat.le_of_ble_eq_true rfl, Nat.le_of_ble_eq_true rfl⟩ rfl (gc4 (Nat.le_of_ble_eq_true rfl)) rfl dX9_readScheme_4 hf (fun v1 σ H locs cells slots I hf => ?_)
  refine W.eq (g2 := F0 m 7 ls [.int v1]) rfl ?_
  refine gw_callS (rest := []) C I hl.1 (m_X9_isLetter G l v1) gl_RX9_176 kw_217 ⟨Nat.le_of_ble_eq_true rfl, Nat.le_of_ble_eq_true rfl⟩ rfl (gc4 (Nat.le_of_ble_eq_true rfl)) rfl dX9_readScheme_7 hf (fun v2 σ H locs cells slots I hf => ?_)
  refine W.eq (g2 := F0 m 10 ls [.int v2]) rfl ?_
  refine lv_if_eq (tgt := 73) hx hb dX9_readScheme_10 (by decide) (fun hq => ?_) (fun hq => ?_)
  · have hf := gift hq hf
    exact w_X9_readScheme_73 C hr  a0 a1 0 _ _ _ _ _ _ hf I (lv_sub hl [1, 2, 0] rfl)
  · have hf := giff hq hf
    refine lv_iconst (v := 1) hx hb dX9_readScheme_13 kc_i_1 ?_
    refine lv_istore_n (lv' := [(2, .int 1), (0, va_rf a0), (1, .int a1)]) hx hb dX9_readScheme_14 rfl hl (by decide) rfl (fun ls hl => ?_)
    exact w_X9_readScheme_L15 C hr  _ a0 a1 1 _ _ _ _ _ _ hf I (lv_sub hl [1, 2, 0] rfl)
end S_X9_readScheme
theorem m_X9_readScheme (G : gX) (l : Launch) (a0 : Option Nat) (a1 : Int32) : gMet G l yX9_readScheme cX9_readScheme 5 none 8 198 [va_rf a0, .int a1] grv (f_X9_readScheme a0 a1) := by
  refine gMet_of (by decide) ?_
  intro σ y p e s m below meth c mc ms hf C hr hnm I
  obtain ⟨ls, e1, hl⟩ := gentry m [va_rf a0, .int a1] 5 [(0, va_rf a0), (1, .int a1)] (by simp [lg_sl, grc, gcat_i, gcat_l]) (by simp [lv_args, grc, gcat_i, gcat_l])
  rw [e1]
  exact w_X9_readScheme_0 C hr a0 a1 _ _ _ _ _ _ hf I hl
def f_X9_put  (a0 : Option Nat) (a1 : Int32) : gM Unit := gb (rR 8 18 a0) fun v1 => gb (rI 8 19 a0) fun v2 => gb (sI 0 v1 v2 a1.toInt8.toInt32) fun _ => gb (rI 8 19 a0) fun v3 => gb (wI 8 19 a0 (v3 + 1)) fun _ => gp ()
section S_X9_put
variable {G : gX} {p : Program} {l : Launch} {e : Env} {s : State} {m : MethodId} {args : Array Value} {below : List Frame} {meth : Method} {c : Code} {mc ms : Nat} {y : Unit × gS}
set_option maxHeartbeats 4000000 in
set_option maxRecDepth 100000 in
theorem w_X9_put_0 (C : gC G p s m args meth c cX9_put 2 RX9) (hr : meth.sig.returnType = none)  (a0 : Option Nat) (a1 : Int32) : gJ G p l e 0 0 mc ms s m args below meth c grv y 2 0 [(0, va_rf a0), (1, .int a1)] [] (f_X9_put  a0 a1) := by
  have hx := C.1
  have hb := C.2.1
  intro σ H locs cells slots ls hf I hl
  unfold f_X9_put at hf
  refine gw_aload_n hx hb dX9_put_0 rfl (lv_at hl 0 rfl) ?_
  refine gw_getr (k := 18) C I gcls_8 (by decide) rfl kw_179 dX9_put_1 hf (fun v1 hf => ?_)
  refine gw_aload_n hx hb dX9_put_4 rfl (lv_at hl 0 rfl) ?_
  refine gw_geti (k := 19) C I gcls_8 (by decide) rfl kw_218 dX9_put_5 hf (fun v2 hf => ?_)
  refine lv_iload_n hx hb dX9_put_8 rfl (lv_at hl 1 rfl) ?_
  refine lv_i2b hx hb dX9_put_9 rfl ?_
  refine gw_bast C I dX9_put_10 hf (fun σ H locs I hf => ?_)
  refine gw_aload_n hx hb dX9_put_11 rfl (lv_at hl 0 rfl) ?_
  refine lv_dup hx hb dX9_put_12 (grc _) ?_
  refine gw_geti (k := 19) C I gcls_8 (by decide) rfl kw_218 dX9_put_13 hf (fun v3 hf => ?_)
  refine lv_iconst (v := 1) hx hb dX9_put_16 kc_i_1 ?_
  refine lv_iadd hx hb dX9_put_17 ?_
  refine gw_puti (k := 19) C I gcls_8 (by decide) rfl kw_218 (Or.inl rfl) (by decide +kernel) dX9_put_18 hf (fun σ H locs I hf => ?_)
  exact gw_vret C I hr dX9_put_21 hf
end S_X9_put
theorem m_X9_put (G : gX) (l : Launch) (a0 : Option Nat) (a1 : Int32) : gMet G l yX9_put cX9_put 2 none 0 0 [va_rf a0, .int a1] grv (f_X9_put a0 a1) := by
  refine gMet_of (by decide) ?_
  intro σ y p e s m below meth c mc ms hf C hr hnm I
  obtain ⟨ls, e1, hl⟩ := gentry m [va_rf a0, .int a1] 2 [(0, va_rf a0), (1, .int a1)] (by simp [lg_sl, grc, gcat_i, gcat_l]) (by simp [lv_args, grc, gcat_i, gcat_l])
  rw [e1]
  exact w_X9_put_0 C hr a0 a1 _ _ _ _ _ _ hf I hl
def f_X9_putDecimal_18 (rec18 : Option Nat → Int32 → Int32 → gM Unit) (x0 : Option Nat) (x1 : Int32) (x2 : Int32) : gM Unit := if x2 ≤ 0 then (gp ()) else (gb (nz x2) fun _ => gb (nz 10) fun _ => gb (nn 8 x0) fun _ => gb (f_X9_put x0 (48 + ((x1 / x2) - (x1 / x2) / 10 * 10))) fun _ => gb (nz 10) fun _ => rec18 x0 x1 (x2 / 10))
def f_X9_putDecimal_L18  : Nat → Option Nat → Int32 → Int32 → gM Unit
  | 0, _, _, _ => gno
  | n + 1, x0, x1, x2 => f_X9_putDecimal_18  (f_X9_putDecimal_L18  n) x0 x1 x2
def f_X9_putDecimal_2 (rec2 : Option Nat → Int32 → Int32 → gM Unit) (x0 : Option Nat) (x1 : Int32) (x2 : Int32) : gM Unit := gb (nz x2) fun _ => if (x1 / x2) ≤ 9 then (f_X9_putDecimal_L18  gF x0 x1 x2) else (rec2 x0 x1 (x2 * 10))
def f_X9_putDecimal_L2  : Nat → Option Nat → Int32 → Int32 → gM Unit
  | 0, _, _, _ => gno
  | n + 1, x0, x1, x2 => f_X9_putDecimal_2  (f_X9_putDecimal_L2  n) x0 x1 x2
def f_X9_putDecimal  (a0 : Option Nat) (a1 : Int32) : gM Unit := f_X9_putDecimal_L2  gF a0 a1 1
section S_X9_putDecimal
variable {G : gX} {p : Program} {l : Launch} {e : Env} {s : State} {m : MethodId} {args : Array Value} {below : List Frame} {meth : Method} {c : Code} {mc ms : Nat} {y : Unit × gS}
set_option maxHeartbeats 4000000 in
set_option maxRecDepth 100000 in
theorem w_X9_putDecimal_18 (C : gC G p s m args meth c cX9_putDecimal 3 RX9) (hr : meth.sig.returnType = none) {rec18 : Option Nat → Int32 → Int32 → gM Unit} (hrec18 : ∀ (x0 : Option Nat) (x1 : Int32) (x2 : Int32), gJ G p l e 1 21 mc ms s m args below meth c grv y 3 18 [(0, va_rf x0), (1, .int x1), (2, .int x2)] [] (rec18 x0 x1 x2)) (x0 : Option Nat) (x1 : Int32) (x2 : Int32) : gJ G p l e 1 21 mc ms s m args below meth c grv y 3 18 [(0, va_rf x0), (1, .int x1), (2, .int x2)] [] (f_X9_putDecimal_18 rec18 x0 x1 x2) := by
  have hx := C.1
  have hb := C.2.1
  intro σ H locs cells slots ls hf I hl
  unfold f_X9_putDecimal_18 at hf
  refine lv_iload_n hx hb dX9_putDecimal_18 rfl (lv_at hl 2 rfl) ?_
  refine lv_if_le (tgt := 43) hx hb dX9_putDecimal_19 (by decide) (fun hq => ?_) (fun hq => ?_)
  · have hf := gift hq hf
    exact gw_vret C I hr dX9_putDecimal_43 hf
  · have hf := giff hq hf
    refine gw_aload_n hx hb dX9_putDecimal_22 rfl (lv_at hl 0 rfl) ?_
    refine lv_bipush (v := 48) hx hb dX9_putDecimal_23 kc_b_48 ?_
    refine lv_iload_n hx hb dX9_putDecimal_25 rfl (lv_at hl 1 rfl) ?_
    refine lv_iload_n hx hb dX9_putDecimal_26 rfl (lv_at hl 2 rfl) ?_
    refine gw_idiv hx hb dX9_putDecimal_27 hf (fun hf => ?_)
    refine lv_bipush (v := 10) hx hb dX9_putDecimal_28 kc_b_10 ?_
    refine gw_irem hx hb dX9_putDecimal_30 hf (fun hf => ?_)
    refine lv_iadd hx hb dX9_putDecimal_31 ?_
    refine gw_callV (rest := []) C I hl.1 gcls_8 (m_X9_put G l x0 (48 + ((x1 / x2) - (x1 / x2) / 10 * 10))) gl_RX9_269 gn_X9_put ⟨Nat.le_of_ble_eq_true rfl, Nat.le_of_ble_eq_true rfl⟩ rfl (gc4 (Nat.le_of_ble_eq_true rfl)) rfl dX9_putDecimal_32 hf (fun _ σ H locs cells slots I hf => ?_)
    refine W.eq (g2 := F0 m 35 ls []) rfl ?_
    refine lv_iload_n hx hb dX9_putDecimal_35 rfl (lv_at hl 2 rfl) ?_
    refine lv_bipush (v := 10) hx hb dX9_putDecimal_36 kc_b_10 ?_
    refine gw_idiv hx hb dX9_putDecimal_38 hf (fun hf => ?_)
    refine lv_istore_n (lv' := [(2, .int (x2 / 10)), (0, va_rf x0), (1, .int x1)]) hx hb dX9_putDecimal_39 rfl hl (by decide) rfl (fun ls hl => ?_)
    refine lv_goto (tgt := 18) hx hb dX9_putDecimal_40 (by decide) ?_
    exact hrec18 x0 x1 (x2 / 10) _ _ _ _ _ _ hf I (lv_sub hl [1, 2, 0] rfl)
theorem w_X9_putDecimal_L18 (C : gC G p s m args meth c cX9_putDecimal 3 RX9) (hr : meth.sig.returnType = none)  : ∀ (n : Nat) (x0 : Option Nat) (x1 : Int32) (x2 : Int32), gJ G p l e 1 21 mc ms s m args below meth c grv y 3 18 [(0, va_rf x0), (1, .int x1), (2, .int x2)] [] (f_X9_putDecimal_L18  n x0 x1 x2) := by
  intro n
  induction n with
  | zero => intro x0 x1 x2 σ H locs cells slots ls hf; exact (gno_some hf).elim
  | succ n ih => intro x0 x1 x2; exact w_X9_putDecimal_18 C hr  ih x0 x1 x2
set_option maxHeartbeats 4000000 in
set_option maxRecDepth 100000 in
theorem w_X9_putDecimal_2 (C : gC G p s m args meth c cX9_putDecimal 3 RX9) (hr : meth.sig.returnType = none) {rec2 : Option Nat → Int32 → Int32 → gM Unit} (hrec2 : ∀ (x0 : Option Nat) (x1 : Int32) (x2 : Int32), gJ G p l e 1 21 mc ms s m args below meth c grv y 3 2 [(0, va_rf x0), (1, .int x1), (2, .int x2)] [] (rec2 x0 x1 x2)) (x0 : Option Nat) (x1 : Int32) (x2 : Int32) : gJ G p l e 1 21 mc ms s m args below meth c grv y 3 2 [(0, va_rf x0), (1, .int x1), (2, .int x2)] [] (f_X9_putDecimal_2 rec2 x0 x1 x2) := by
  have hx := C.1
  have hb := C.2.1
  intro σ H locs cells slots ls hf I hl
  unfold f_X9_putDecimal_2 at hf
  refine lv_iload_n hx hb dX9_putDecimal_2 rfl (lv_at hl 1 rfl) ?_
  refine lv_iload_n hx hb dX9_putDecimal_3 rfl (lv_at hl 2 rfl) ?_
  refine gw_idiv hx hb dX9_putDecimal_4 hf (fun hf => ?_)
  refine lv_bipush (v := 9) hx hb dX9_putDecimal_5 kc_b_9 ?_
  refine lv_icmp_le (tgt := 18) hx hb dX9_putDecimal_7 (by decide) (fun hq => ?_) (fun hq => ?_)
  · have hf := gift hq hf
    exact w_X9_putDecimal_L18 C hr  _ x0 x1 x2 _ _ _ _ _ _ hf I (lv_sub hl [0, 1, 2] rfl)
  · have hf := giff hq hf
    refine lv_iload_n hx hb dX9_putDecimal_10 rfl (lv_at hl 2 rfl) ?_
    refine lv_bipush (v := 10) hx hb dX9_putDecimal_11 kc_b_10 ?_
    refine lv_imul hx hb dX9_putDecimal_13 ?_
    refine lv_istore_n (lv' := [(2, .int (x2 * 10)), (0, va_rf x0), (1, .int x1)]) hx hb dX9_putDecimal_14 rfl hl (by decide) rfl (fun ls hl => ?_)
    refine lv_goto (tgt := 2) hx hb dX9_putDecimal_15 (by decide) ?_
    exact hrec2 x0 x1 (x2 * 10) _ _ _ _ _ _ hf I (lv_sub hl [1, 2, 0] rfl)
theorem w_X9_putDecimal_L2 (C : gC G p s m args meth c cX9_putDecimal 3 RX9) (hr : meth.sig.returnType = none)  : ∀ (n : Nat) (x0 : Option Nat) (x1 : Int32) (x2 : Int32), gJ G p l e 1 21 mc ms s m args below meth c grv y 3 2 [(0, va_rf x0), (1, .int x1), (2, .int x2)] [] (f_X9_putDecimal_L2  n x0 x1 x2) := by
  intro n
  induction n with
  | zero => intro x0 x1 x2 σ H locs cells slots ls hf; exact (gno_some hf).elim
  | succ n ih => intro x0 x1 x2; exact w_X9_putDecimal_2 C hr  ih x0 x1 x2
set_option maxHeartbeats 4000000 in
set_option maxRecDepth 100000 in
theorem w_X9_putDecimal_0 (C : gC G p s m args meth c cX9_putDecimal 3 RX9) (hr : meth.sig.returnType = none)  (a0 : Option Nat) (a1 : Int32) : gJ G p l e 1 21 mc ms s m args below meth c grv y 3 0 [(0, va_rf a0), (1, .int a1)] [] (f_X9_putDecimal  a0 a1) := by
  have hx := C.1
  have hb := C.2.1
  intro σ H locs cells slots ls hf I hl
  unfold f_X9_putDecimal at hf
  refine lv_iconst (v := 1) hx hb dX9_putDecimal_0 kc_i_1 ?_
  refine lv_istore_n (lv' := [(2, .int 1), (0, va_rf a0), (1, .int a1)]) hx hb dX9_putDecimal_1 rfl hl (by decide) rfl (fun ls hl => ?_)
  exact w_X9_putDecimal_L2 C hr  _ a0 a1 1 _ _ _ _ _ _ hf I (lv_sub hl [1, 2, 0] rfl)
end S_X9_putDecimal
theorem m_X9_putDecimal (G : gX) (l : Launch) (a0 : Option Nat) (a1 : Int32) : gMet G l yX9_putDecimal cX9_putDecimal 3 none 1 21 [va_rf a0, .int a1] grv (f_X9_putDecimal a0 a1) := by
  refine gMet_of (by decide) ?_
  intro σ y p e s m below meth c mc ms hf C hr hnm I
  obtain ⟨ls, e1, hl⟩ := gentry m [va_rf a0, .int a1] 3 [(0, va_rf a0), (1, .int a1)] (by simp [lg_sl, grc, gcat_i, gcat_l]) (by simp [lv_args, grc, gcat_i, gcat_l])
  rw [e1]
  exact w_X9_putDecimal_0 C hr a0 a1 _ _ _ _ _ _ hf I hl
def f_X9_putHex_64 (rec5 : Option Nat → Int32 → Int32 → Int32 → gM Unit) (x0 : Option Nat) (x1 : Int32) (x2 : Int32) (x3 : Int32) (s0 : Option Nat) (s1 : Int32) : gM Unit := gb (nn 8 s0) fun _ => gb (f_X9_put s0 s1) fun _ => rec5 x0 x1 x2 (x3 + (-4))
def f_X9_putHex_35 (rec5 : Option Nat → Int32 → Int32 → Int32 → gM Unit) (x0 : Option Nat) (x1 : Int32) (x3 : Int32) (x4 : Int32) (s0 : Int32) : gM Unit := if s0 = 0 then (rec5 x0 x1 s0 (x3 + (-4))) else (if 10 ≤ x4 then (f_X9_putHex_64 rec5 x0 x1 s0 x3 x0 ((97 + x4) - 10)) else (f_X9_putHex_64 rec5 x0 x1 s0 x3 x0 (48 + x4)))
def f_X9_putHex_30 (rec5 : Option Nat → Int32 → Int32 → Int32 → gM Unit) (x0 : Option Nat) (x1 : Int32) (x3 : Int32) (x4 : Int32) : gM Unit := f_X9_putHex_35 rec5 x0 x1 x3 x4 1
def f_X9_putHex_5 (rec5 : Option Nat → Int32 → Int32 → Int32 → gM Unit) (x0 : Option Nat) (x1 : Int32) (x2 : Int32) (x3 : Int32) : gM Unit := if x3 < 0 then (gp ()) else (if x2 = 0 then (if 0 < ((x1 >>> (x3 &&& 31)) &&& 15) then (f_X9_putHex_30 rec5 x0 x1 x3 ((x1 >>> (x3 &&& 31)) &&& 15)) else (if x3 = 0 then (f_X9_putHex_30 rec5 x0 x1 x3 ((x1 >>> (x3 &&& 31)) &&& 15)) else (f_X9_putHex_35 rec5 x0 x1 x3 ((x1 >>> (x3 &&& 31)) &&& 15) 0))) else (f_X9_putHex_30 rec5 x0 x1 x3 ((x1 >>> (x3 &&& 31)) &&& 15)))
def f_X9_putHex_L5  : Nat → Option Nat → Int32 → Int32 → Int32 → gM Unit
  | 0, _, _, _, _ => gno
  | n + 1, x0, x1, x2, x3 => f_X9_putHex_5  (f_X9_putHex_L5  n) x0 x1 x2 x3
def f_X9_putHex  (a0 : Option Nat) (a1 : Int32) : gM Unit := f_X9_putHex_L5  gF a0 a1 0 12
section S_X9_putHex
variable {G : gX} {p : Program} {l : Launch} {e : Env} {s : State} {m : MethodId} {args : Array Value} {below : List Frame} {meth : Method} {c : Code} {mc ms : Nat} {y : Unit × gS}
set_option maxHeartbeats 4000000 in
set_option maxRecDepth 100000 in
theorem w_X9_putHex_64 (C : gC G p s m args meth c cX9_putHex 5 RX9) (hr : meth.sig.returnType = none) {rec5 : Option Nat → Int32 → Int32 → Int32 → gM Unit} (hrec5 : ∀ (x0 : Option Nat) (x1 : Int32) (x2 : Int32) (x3 : Int32), gJ G p l e 1 21 mc ms s m args below meth c grv y 5 5 [(0, va_rf x0), (1, .int x1), (2, .int x2), (3, .int x3)] [] (rec5 x0 x1 x2 x3)) (x0 : Option Nat) (x1 : Int32) (x2 : Int32) (x3 : Int32) (s0 : Option Nat) (s1 : Int32) : gJ G p l e 1 21 mc ms s m args below meth c grv y 5 64 [(0, va_rf x0), (1, .int x1), (2, .int x2), (3, .int x3)] [.int s1, va_rf s0] (f_X9_putHex_64 rec5 x0 x1 x2 x3 s0 s1) := by
  have hx := C.1
  have hb := C.2.1
  intro σ H locs cells slots ls hf I hl
  unfold f_X9_putHex_64 at hf
  refine gw_callV (rest := []) C I hl.1 gcls_8 (m_X9_put G l s0 s1) gl_RX9_269 gn_X9_put ⟨Nat.le_of_ble_eq_true rfl, Nat.le_of_ble_eq_true rfl⟩ rfl (gc4 (Nat.le_of_ble_eq_true rfl)) rfl dX9_putHex_64 hf (fun _ σ H locs cells slots I hf => ?_)
  refine W.eq (g2 := F0 m 67 ls []) rfl ?_
  refine lv_iinc (v := x3 + (-4)) (lv' := [(3, .int (x3 + (-4))), (0, va_rf x0), (1, .int x1), (2, .int x2)]) hx hb dX9_putHex_67 hl (k := 3) rfl rfl (by decide) rfl (fun ls hl => ?_)
  refine lv_goto (tgt := 5) hx hb dX9_putHex_70 (by decide) ?_
  exact hrec5 x0 x1 x2 (x3 + (-4)) _ _ _ _ _ _ hf I (lv_sub hl [1, 2, 3, 0] rfl)
set_option maxHeartbeats 4000000 in
set_option maxRecDepth 100000 in
theorem w_X9_putHex_35 (C : gC G p s m args meth c cX9_putHex 5 RX9) (hr : meth.sig.returnType = none) {rec5 : Option Nat → Int32 → Int32 → Int32 → gM Unit} (hrec5 : ∀ (x0 : Option Nat) (x1 : Int32) (x2 : Int32) (x3 : Int32), gJ G p l e 1 21 mc ms s m args below meth c grv y 5 5 [(0, va_rf x0), (1, .int x1), (2, .int x2), (3, .int x3)] [] (rec5 x0 x1 x2 x3)) (x0 : Option Nat) (x1 : Int32) (x3 : Int32) (x4 : Int32) (s0 : Int32) : gJ G p l e 1 21 mc ms s m args below meth c grv y 5 35 [(0, va_rf x0), (1, .int x1), (3, .int x3), (4, .int x4)] [.int s0] (f_X9_putHex_35 rec5 x0 x1 x3 x4 s0) := by
  have hx := C.1
  have hb := C.2.1
  intro σ H locs cells slots ls hf I hl
  unfold f_X9_putHex_35 at hf
  refine lv_istore_n (lv' := [(2, .int s0), (0, va_rf x0), (1, .int x1), (3, .int x3), (4, .int x4)]) hx hb dX9_putHex_35 rfl hl (by decide) rfl (fun ls hl => ?_)
  refine lv_iload_n hx hb dX9_putHex_36 rfl (lv_at hl 0 rfl) ?_
  refine lv_if_eq (tgt := 67) hx hb dX9_putHex_37 (by decide) (fun hq => ?_) (fun hq => ?_)
  · have hf := gift hq hf
    refine lv_iinc (v := x3 + (-4)) (lv' := [(3, .int (x3 + (-4))), (2, .int s0), (0, va_rf x0), (1, .int x1), (4, .int x4)]) hx hb dX9_putHex_67 hl (k := 3) rfl rfl (by decide) rfl (fun ls hl => ?_)
    refine lv_goto (tgt := 5) hx hb dX9_putHex_70 (by decide) ?_
    exact hrec5 x0 x1 s0 (x3 + (-4)) _ _ _ _ _ _ hf I (lv_sub hl [2, 3, 1, 0] rfl)
  · have hf := giff hq hf
    refine gw_aload_n hx hb dX9_putHex_40 rfl (lv_at hl 1 rfl) ?_
    refine lv_iload hx hb dX9_putHex_41 (lv_at hl 4 rfl) ?_
    refine lv_bipush (v := 10) hx hb dX9_putHex_43 kc_b_10 ?_
    refine lv_icmp_ge (tgt := 56) hx hb dX9_putHex_45 (by decide) (fun hq => ?_) (fun hq => ?_)
    · have hf := gift hq hf
      refine lv_bipush (v := 97) hx hb dX9_putHex_56 kc_b_97 ?_
      refine lv_iload hx hb dX9_putHex_58 (lv_at hl 4 rfl) ?_
      refine lv_iadd hx hb dX9_putHex_60 ?_
      refine lv_bipush (v := 10) hx hb dX9_putHex_61 kc_b_10 ?_
      refine lv_isub hx hb dX9_putHex_63 ?_
      exact w_X9_putHex_64 C hr hrec5 x0 x1 s0 x3 x0 ((97 + x4) - 10) _ _ _ _ _ _ hf I (lv_sub hl [1, 2, 0, 3] rfl)
    · have hf := giff hq hf
      refine lv_bipush (v := 48) hx hb dX9_putHex_48 kc_b_48 ?_
      refine lv_iload hx hb dX9_putHex_50 (lv_at hl 4 rfl) ?_
      refine lv_iadd hx hb dX9_putHex_52 ?_
      refine lv_goto (tgt := 64) hx hb dX9_putHex_53 (by decide) ?_
      exact w_X9_putHex_64 C hr hrec5 x0 x1 s0 x3 x0 (48 + x4) _ _ _ _ _ _ hf I (lv_sub hl [1, 2, 0, 3] rfl)
set_option maxHeartbeats 4000000 in
set_option maxRecDepth 100000 in
theorem w_X9_putHex_30 (C : gC G p s m args meth c cX9_putHex 5 RX9) (hr : meth.sig.returnType = none) {rec5 : Option Nat → Int32 → Int32 → Int32 → gM Unit} (hrec5 : ∀ (x0 : Option Nat) (x1 : Int32) (x2 : Int32) (x3 : Int32), gJ G p l e 1 21 mc ms s m args below meth c grv y 5 5 [(0, va_rf x0), (1, .int x1), (2, .int x2), (3, .int x3)] [] (rec5 x0 x1 x2 x3)) (x0 : Option Nat) (x1 : Int32) (x3 : Int32) (x4 : Int32) : gJ G p l e 1 21 mc ms s m args below meth c grv y 5 30 [(0, va_rf x0), (1, .int x1), (3, .int x3), (4, .int x4)] [] (f_X9_putHex_30 rec5 x0 x1 x3 x4) := by
  have hx := C.1
  have hb := C.2.1
  intro σ H locs cells slots ls hf I hl
  unfold f_X9_putHex_30 at hf
  refine lv_iconst (v := 1) hx hb dX9_putHex_30 kc_i_1 ?_
  refine lv_goto (tgt := 35) hx hb dX9_putHex_31 (by decide) ?_
  exact w_X9_putHex_35 C hr hrec5 x0 x1 x3 x4 1 _ _ _ _ _ _ hf I (lv_sub hl [0, 1, 2, 3] rfl)
set_option maxHeartbeats 4000000 in
set_option maxRecDepth 100000 in
theorem w_X9_putHex_5 (C : gC G p s m args meth c cX9_putHex 5 RX9) (hr : meth.sig.returnType = none) {rec5 : Option Nat → Int32 → Int32 → Int32 → gM Unit} (hrec5 : ∀ (x0 : Option Nat) (x1 : Int32) (x2 : Int32) (x3 : Int32), gJ G p l e 1 21 mc ms s m args below meth c grv y 5 5 [(0, va_rf x0), (1, .int x1), (2, .int x2), (3, .int x3)] [] (rec5 x0 x1 x2 x3)) (x0 : Option Nat) (x1 : Int32) (x2 : Int32) (x3 : Int32) : gJ G p l e 1 21 mc ms s m args below meth c grv y 5 5 [(0, va_rf x0), (1, .int x1), (2, .int x2), (3, .int x3)] [] (f_X9_putHex_5 rec5 x0 x1 x2 x3) := by
  have hx := C.1
  have hb := C.2.1
  intro σ H locs cells slots ls hf I hl
  unfold f_X9_putHex_5 at hf
  refine lv_iload_n hx hb dX9_putHex_5 rfl (lv_at hl 3 rfl) ?_
  refine lv_if_lt (tgt := 73) hx hb dX9_putHex_6 (by decide) (fun hq => ?_) (fun hq => ?_)
  · have hf := gift hq hf
    exact gw_vret C I hr dX9_putHex_73 hf
  · have hf := giff hq hf
    refine lv_iload_n hx hb dX9_putHex_9 rfl (lv_at hl 1 rfl) ?_
    refine lv_iload_n hx hb dX9_putHex_10 rfl (lv_at hl 3 rfl) ?_
    refine lv_ishr hx hb dX9_putHex_11 ?_
    refine lv_bipush (v := 15) hx hb dX9_putHex_12 kc_b_15 ?_
    refine lv_iand hx hb dX9_putHex_14 ?_
    refine lv_istore (lv' := [(4, .int ((x1 >>> (x3 &&& 31)) &&& 15)), (0, va_rf x0), (1, .int x1), (2, .int x2), (3, .int x3)]) hx hb dX9_putHex_15 hl (by decide) rfl (fun ls hl => ?_)
    refine lv_iload_n hx hb dX9_putHex_17 rfl (lv_at hl 3 rfl) ?_
    refine lv_if_ne (tgt := 30) hx hb dX9_putHex_18 (by decide) (fun hq => ?_) (fun hq => ?_)
    · have hf := giff hq hf
      exact w_X9_putHex_30 C hr hrec5 x0 x1 x3 ((x1 >>> (x3 &&& 31)) &&& 15) _ _ _ _ _ _ hf I (lv_sub hl [1, 2, 4, 0] rfl)
    · have hf := gift hq hf
      refine lv_iload hx hb dX9_putHex_21 (lv_at hl 0 rfl) ?_
      refine lv_if_gt (tgt := 30) hx hb dX9_putHex_23 (by decide) (fun hq => ?_) (fun hq => ?_)
      · have hf := gift hq hf
        exact w_X9_putHex_30 C hr hrec5 x0 x1 x3 ((x1 >>> (x3 &&& 31)) &&& 15) _ _ _ _ _ _ hf I (lv_sub hl [1, 2, 4, 0] rfl)
      · have hf := giff hq hf
        refine lv_iload_n hx hb dX9_putHex_26 rfl (lv_at hl 4 rfl) ?_
        refine lv_if_ne (tgt := 34) hx hb dX9_putHex_27 (by decide) (fun hq => ?_) (fun hq => ?_)
        · have hf := giff hq hf
          refine lv_iconst (v := 0) hx hb dX9_putHex_34 kc_i_0 ?_
          exact w_X9_putHex_35 C hr hrec5 x0 x1 x3 ((x1 >>> (x3 &&& 31)) &&& 15) 0 _ _ _ _ _ _ hf I (lv_sub hl [1, 2, 4, 0] rfl)
        · have hf := gift hq hf
          exact w_X9_putHex_30 C hr hrec5 x0 x1 x3 ((x1 >>> (x3 &&& 31)) &&& 15) _ _ _ _ _ _ hf I (lv_sub hl [1, 2, 4, 0] rfl)
theorem w_X9_putHex_L5 (C : gC G p s m args meth c cX9_putHex 5 RX9) (hr : meth.sig.returnType = none)  : ∀ (n : Nat) (x0 : Option Nat) (x1 : Int32) (x2 : Int32) (x3 : Int32), gJ G p l e 1 21 mc ms s m args below meth c grv y 5 5 [(0, va_rf x0), (1, .int x1), (2, .int x2), (3, .int x3)] [] (f_X9_putHex_L5  n x0 x1 x2 x3) := by
  intro n
  induction n with
  | zero => intro x0 x1 x2 x3 σ H locs cells slots ls hf; exact (gno_some hf).elim
  | succ n ih => intro x0 x1 x2 x3; exact w_X9_putHex_5 C hr  ih x0 x1 x2 x3
set_option maxHeartbeats 4000000 in
set_option maxRecDepth 100000 in
theorem w_X9_putHex_0 (C : gC G p s m args meth c cX9_putHex 5 RX9) (hr : meth.sig.returnType = none)  (a0 : Option Nat) (a1 : Int32) : gJ G p l e 1 21 mc ms s m args below meth c grv y 5 0 [(0, va_rf a0), (1, .int a1)] [] (f_X9_putHex  a0 a1) := by
  have hx := C.1
  have hb := C.2.1
  intro σ H locs cells slots ls hf I hl
  unfold f_X9_putHex at hf
  refine lv_iconst (v := 0) hx hb dX9_putHex_0 kc_i_0 ?_
  refine lv_istore_n (lv' := [(2, .int 0), (0, va_rf a0), (1, .int a1)]) hx hb dX9_putHex_1 rfl hl (by decide) rfl (fun ls hl => ?_)
  refine lv_bipush (v := 12) hx hb dX9_putHex_2 kc_b_12 ?_
  refine lv_istore_n (lv' := [(3, .int 12), (2, .int 0), (0, va_rf a0), (1, .int a1)]) hx hb dX9_putHex_4 rfl hl (by decide) rfl (fun ls hl => ?_)
  exact w_X9_putHex_L5 C hr  _ a0 a1 0 12 _ _ _ _ _ _ hf I (lv_sub hl [2, 3, 1, 0] rfl)
end S_X9_putHex
theorem m_X9_putHex (G : gX) (l : Launch) (a0 : Option Nat) (a1 : Int32) : gMet G l yX9_putHex cX9_putHex 5 none 1 21 [va_rf a0, .int a1] grv (f_X9_putHex a0 a1) := by
  refine gMet_of (by decide) ?_
  intro σ y p e s m below meth c mc ms hf C hr hnm I
  obtain ⟨ls, e1, hl⟩ := gentry m [va_rf a0, .int a1] 5 [(0, va_rf a0), (1, .int a1)] (by simp [lg_sl, grc, gcat_i, gcat_l]) (by simp [lv_args, grc, gcat_i, gcat_l])
  rw [e1]
  exact w_X9_putHex_0 C hr a0 a1 _ _ _ _ _ _ hf I hl
def f_X9_writeSix_51 (rec7 : Option Nat → Int32 → Int32 → Int32 → Int32 → gM Unit) (x0 : Option Nat) (x1 : Int32) (x2 : Int32) (x3 : Int32) (x4 : Int32) (x5 : Int32) : gM Unit := if x5 ≤ x3 then (rec7 x0 x1 x2 x3 (x4 + 1)) else (rec7 x0 x1 x4 x5 (x4 + 1))
def f_X9_writeSix_17 (rec7 : Option Nat → Int32 → Int32 → Int32 → Int32 → gM Unit) (rec17 : Option Nat → Int32 → Int32 → Int32 → Int32 → Int32 → gM Unit) (x0 : Option Nat) (x1 : Int32) (x2 : Int32) (x3 : Int32) (x4 : Int32) (x5 : Int32) : gM Unit := if 8 ≤ (x4 + x5) then (f_X9_writeSix_51 rec7 x0 x1 x2 x3 x4 x5) else (gb (rR 8 6 x0) fun v1 => gb (aI 1 v1 (((8 * x1) + x4) + x5)) fun v2 => if v2 = 0 then (rec17 x0 x1 x2 x3 x4 (x5 + 1)) else (f_X9_writeSix_51 rec7 x0 x1 x2 x3 x4 x5))
def f_X9_writeSix_L17 (rec7 : Option Nat → Int32 → Int32 → Int32 → Int32 → gM Unit) : Nat → Option Nat → Int32 → Int32 → Int32 → Int32 → Int32 → gM Unit
  | 0, _, _, _, _, _, _ => gno
  | n + 1, x0, x1, x2, x3, x4, x5 => f_X9_writeSix_17 rec7 (f_X9_writeSix_L17 rec7 n) x0 x1 x2 x3 x4 x5
def f_X9_writeSix_129 (rec81 : Option Nat → Int32 → Int32 → Int32 → Int32 → Int32 → gM Unit) (x0 : Option Nat) (x1 : Int32) (x2 : Int32) (x3 : Int32) (x4 : Int32) : gM Unit := gb (rR 8 6 x0) fun v1 => gb (aI 1 v1 ((8 * x1) + x4)) fun v2 => gb (nn 8 x0) fun _ => gb (f_X9_putHex x0 v2) fun _ => rec81 x0 x1 x2 x3 (x4 + 1) 1
def f_X9_writeSix_81 (rec81 : Option Nat → Int32 → Int32 → Int32 → Int32 → Int32 → gM Unit) (x0 : Option Nat) (x1 : Int32) (x2 : Int32) (x3 : Int32) (x4 : Int32) (x5 : Int32) : gM Unit := if 8 ≤ x4 then (gb (nn 8 x0) fun _ => gb (f_X9_put x0 93) fun _ => gp ()) else (if x4 = x2 then (gb (nn 8 x0) fun _ => gb (f_X9_put x0 58) fun _ => gb (nn 8 x0) fun _ => gb (f_X9_put x0 58) fun _ => rec81 x0 x1 x2 x3 (x4 + x3) 0) else (if x5 = 0 then (f_X9_writeSix_129 rec81 x0 x1 x2 x3 x4) else (gb (nn 8 x0) fun _ => gb (f_X9_put x0 58) fun _ => f_X9_writeSix_129 rec81 x0 x1 x2 x3 x4)))
def f_X9_writeSix_L81  : Nat → Option Nat → Int32 → Int32 → Int32 → Int32 → Int32 → gM Unit
  | 0, _, _, _, _, _, _ => gno
  | n + 1, x0, x1, x2, x3, x4, x5 => f_X9_writeSix_81  (f_X9_writeSix_L81  n) x0 x1 x2 x3 x4 x5
def f_X9_writeSix_7 (rec7 : Option Nat → Int32 → Int32 → Int32 → Int32 → gM Unit) (x0 : Option Nat) (x1 : Int32) (x2 : Int32) (x3 : Int32) (x4 : Int32) : gM Unit := if 8 ≤ x4 then (gb (nn 8 x0) fun _ => gb (f_X9_put x0 91) fun _ => f_X9_writeSix_L81  gF x0 x1 x2 x3 0 0) else (f_X9_writeSix_L17 rec7 gF x0 x1 x2 x3 x4 0)
def f_X9_writeSix_L7  : Nat → Option Nat → Int32 → Int32 → Int32 → Int32 → gM Unit
  | 0, _, _, _, _, _ => gno
  | n + 1, x0, x1, x2, x3, x4 => f_X9_writeSix_7  (f_X9_writeSix_L7  n) x0 x1 x2 x3 x4
def f_X9_writeSix  (a0 : Option Nat) (a1 : Int32) : gM Unit := f_X9_writeSix_L7  gF a0 a1 (-1) 1 0
section S_X9_writeSix
variable {G : gX} {p : Program} {l : Launch} {e : Env} {s : State} {m : MethodId} {args : Array Value} {below : List Frame} {meth : Method} {c : Code} {mc ms : Nat} {y : Unit × gS}
set_option maxHeartbeats 4000000 in
set_option maxRecDepth 100000 in
theorem w_X9_writeSix_51 (C : gC G p s m args meth c cX9_writeSix 6 RX9) (hr : meth.sig.returnType = none) {rec7 : Option Nat → Int32 → Int32 → Int32 → Int32 → gM Unit} (hrec7 : ∀ (x0 : Option Nat) (x1 : Int32) (x2 : Int32) (x3 : Int32) (x4 : Int32), gJ G p l e 2 45 mc ms s m args below meth c grv y 6 7 [(0, va_rf x0), (1, .int x1), (2, .int x2), (3, .int x3), (4, .int x4)] [] (rec7 x0 x1 x2 x3 x4)) (x0 : Option Nat) (x1 : Int32) (x2 : Int32) (x3 : Int32) (x4 : Int32) (x5 : Int32) : gJ G p l e 2 45 mc ms s m args below meth c grv y 6 51 [(0, va_rf x0), (1, .int x1), (2, .int x2), (3, .int x3), (4, .int x4), (5, .int x5)] [] (f_X9_writeSix_51 rec7 x0 x1 x2 x3 x4 x5) := by
  have hx := C.1
  have hb := C.2.1
  intro σ H locs cells slots ls hf I hl
  unfold f_X9_writeSix_51 at hf
  refine lv_iload hx hb dX9_writeSix_51 (lv_at hl 5 rfl) ?_
  refine lv_iload_n hx hb dX9_writeSix_53 rfl (lv_at hl 3 rfl) ?_
  refine lv_icmp_le (tgt := 63) hx hb dX9_writeSix_54 (by decide) (fun hq => ?_) (fun hq => ?_)
  · have hf := gift hq hf
    refine lv_iinc (v := x4 + 1) (lv' := [(4, .int (x4 + 1)), (0, va_rf x0), (1, .int x1), (2, .int x2), (3, .int x3), (5, .int x5)]) hx hb dX9_writeSix_63 hl (k := 4) rfl rfl (by decide) rfl (fun ls hl => ?_)
    refine lv_goto (tgt := 7) hx hb dX9_writeSix_66 (by decide) ?_
    exact hrec7 x0 x1 x2 x3 (x4 + 1) _ _ _ _ _ _ hf I (lv_sub hl [1, 2, 3, 4, 0] rfl)
  · have hf := giff hq hf
    refine lv_iload hx hb dX9_writeSix_57 (lv_at hl 5 rfl) ?_
    refine lv_istore_n (lv' := [(3, .int x5), (0, va_rf x0), (1, .int x1), (2, .int x2), (4, .int x4), (5, .int x5)]) hx hb dX9_writeSix_59 rfl hl (by decide) rfl (fun ls hl => ?_)
    refine lv_iload hx hb dX9_writeSix_60 (lv_at hl 4 rfl) ?_
    refine lv_istore_n (lv' := [(2, .int x4), (3, .int x5), (0, va_rf x0), (1, .int x1), (4, .int x4), (5, .int x5)]) hx hb dX9_writeSix_62 rfl hl (by decide) rfl (fun ls hl => ?_)
    refine lv_iinc (v := x4 + 1) (lv' := [(4, .int (x4 + 1)), (2, .int x4), (3, .int x5), (0, va_rf x0), (1, .int x1), (5, .int x5)]) hx hb dX9_writeSix_63 hl (k := 4) rfl rfl (by decide) rfl (fun ls hl => ?_)
    refine lv_goto (tgt := 7) hx hb dX9_writeSix_66 (by decide) ?_
    exact hrec7 x0 x1 x4 x5 (x4 + 1) _ _ _ _ _ _ hf I (lv_sub hl [3, 4, 1, 2, 0] rfl)
set_option maxHeartbeats 4000000 in
set_option maxRecDepth 100000 in
theorem w_X9_writeSix_17 (C : gC G p s m args meth c cX9_writeSix 6 RX9) (hr : meth.sig.returnType = none) {rec7 : Option Nat → Int32 → Int32 → Int32 → Int32 → gM Unit} (hrec7 : ∀ (x0 : Option Nat) (x1 : Int32) (x2 : Int32) (x3 : Int32) (x4 : Int32), gJ G p l e 2 45 mc ms s m args below meth c grv y 6 7 [(0, va_rf x0), (1, .int x1), (2, .int x2), (3, .int x3), (4, .int x4)] [] (rec7 x0 x1 x2 x3 x4)) {rec17 : Option Nat → Int32 → Int32 → Int32 → Int32 → Int32 → gM Unit} (hrec17 : ∀ (x0 : Option Nat) (x1 : Int32) (x2 : Int32) (x3 : Int32) (x4 : Int32) (x5 : Int32), gJ G p l e 2 45 mc ms s m args below meth c grv y 6 17 [(0, va_rf x0), (1, .int x1), (2, .int x2), (3, .int x3), (4, .int x4), (5, .int x5)] [] (rec17 x0 x1 x2 x3 x4 x5)) (x0 : Option Nat) (x1 : Int32) (x2 : Int32) (x3 : Int32) (x4 : Int32) (x5 : Int32) : gJ G p l e 2 45 mc ms s m args below meth c grv y 6 17 [(0, va_rf x0), (1, .int x1), (2, .int x2), (3, .int x3), (4, .int x4), (5, .int x5)] [] (f_X9_writeSix_17 rec7 rec17 x0 x1 x2 x3 x4 x5) := by
  have hx := C.1
  have hb := C.2.1
  intro σ H locs cells slots ls hf I hl
  unfold f_X9_writeSix_17 at hf
  refine lv_iload hx hb dX9_writeSix_17 (lv_at hl 4 rfl) ?_
  refine lv_iload hx hb dX9_writeSix_19 (lv_at hl 5 rfl) ?_
  refine lv_iadd hx hb dX9_writeSix_21 ?_
  refine lv_bipush (v := 8) hx hb dX9_writeSix_22 kc_b_8 ?_
  refine lv_icmp_ge (tgt := 51) hx hb dX9_writeSix_24 (by decide) (fun hq => ?_) (fun hq => ?_)
  · have hf := gift hq hf
    exact w_X9_writeSix_51 C hr hrec7 x0 x1 x2 x3 x4 x5 _ _ _ _ _ _ hf I (lv_sub hl [0, 1, 2, 3, 4, 5] rfl)
  · have hf := giff hq hf
    refine gw_aload_n hx hb dX9_writeSix_27 rfl (lv_at hl 0 rfl) ?_
    refine gw_getr (k := 6) C I gcls_8 (by decide) rfl kw_170 dX9_writeSix_28 hf (fun v1 hf => ?_)
    refine lv_bipush (v := 8) hx hb dX9_writeSix_31 kc_b_8 ?_
    refine lv_iload_n hx hb dX9_writeSix_33 rfl (lv_at hl 1 rfl) ?_
    refine lv_imul hx hb dX9_writeSix_34 ?_
    refine lv_iload hx hb dX9_writeSix_35 (lv_at hl 4 rfl) ?_
    refine lv_iadd hx hb dX9_writeSix_37 ?_
    refine lv_iload hx hb dX9_writeSix_38 (lv_at hl 5 rfl) ?_
    refine lv_iadd hx hb dX9_writeSix_40 ?_
    refine gw_iald C I dX9_writeSix_41 hf (fun v2 hf => ?_)
    refine lv_if_ne (tgt := 51) hx hb dX9_writeSix_42 (by decide) (fun hq => ?_) (fun hq => ?_)
    · have hf := giff hq hf
      exact w_X9_writeSix_51 C hr hrec7 x0 x1 x2 x3 x4 x5 _ _ _ _ _ _ hf I (lv_sub hl [0, 1, 2, 3, 4, 5] rfl)
    · have hf := gift hq hf
      refine lv_iinc (v := x5 + 1) (lv' := [(5, .int (x5 + 1)), (0, va_rf x0), (1, .int x1), (2, .int x2), (3, .int x3), (4, .int x4)]) hx hb dX9_writeSix_45 hl (k := 5) rfl rfl (by decide) rfl (fun ls hl => ?_)
      refine lv_goto (tgt := 17) hx hb dX9_writeSix_48 (by decide) ?_
      exact hrec17 x0 x1 x2 x3 x4 (x5 + 1) _ _ _ _ _ _ hf I (lv_sub hl [1, 2, 3, 4, 5, 0] rfl)
theorem w_X9_writeSix_L17 (C : gC G p s m args meth c cX9_writeSix 6 RX9) (hr : meth.sig.returnType = none) {rec7 : Option Nat → Int32 → Int32 → Int32 → Int32 → gM Unit} (hrec7 : ∀ (x0 : Option Nat) (x1 : Int32) (x2 : Int32) (x3 : Int32) (x4 : Int32), gJ G p l e 2 45 mc ms s m args below meth c grv y 6 7 [(0, va_rf x0), (1, .int x1), (2, .int x2), (3, .int x3), (4, .int x4)] [] (rec7 x0 x1 x2 x3 x4)) : ∀ (n : Nat) (x0 : Option Nat) (x1 : Int32) (x2 : Int32) (x3 : Int32) (x4 : Int32) (x5 : Int32), gJ G p l e 2 45 mc ms s m args below meth c grv y 6 17 [(0, va_rf x0), (1, .int x1), (2, .int x2), (3, .int x3), (4, .int x4), (5, .int x5)] [] (f_X9_writeSix_L17 rec7 n x0 x1 x2 x3 x4 x5) := by
  intro n
  induction n with
  | zero => intro x0 x1 x2 x3 x4 x5 σ H locs cells slots ls hf; exact (gno_some hf).elim
  | succ n ih => intro x0 x1 x2 x3 x4 x5; exact w_X9_writeSix_17 C hr hrec7 ih x0 x1 x2 x3 x4 x5
set_option maxHeartbeats 4000000 in
set_option maxRecDepth 100000 in
theorem w_X9_writeSix_129 (C : gC G p s m args meth c cX9_writeSix 6 RX9) (hr : meth.sig.returnType = none) {rec81 : Option Nat → Int32 → Int32 → Int32 → Int32 → Int32 → gM Unit} (hrec81 : ∀ (x0 : Option Nat) (x1 : Int32) (x2 : Int32) (x3 : Int32) (x4 : Int32) (x5 : Int32), gJ G p l e 2 45 mc ms s m args below meth c grv y 6 81 [(0, va_rf x0), (1, .int x1), (2, .int x2), (3, .int x3), (4, .int x4), (5, .int x5)] [] (rec81 x0 x1 x2 x3 x4 x5)) (x0 : Option Nat) (x1 : Int32) (x2 : Int32) (x3 : Int32) (x4 : Int32) : gJ G p l e 2 45 mc ms s m args below meth c grv y 6 129 [(0, va_rf x0), (1, .int x1), (2, .int x2), (3, .int x3), (4, .int x4)] [] (f_X9_writeSix_129 rec81 x0 x1 x2 x3 x4) := by
  have hx := C.1
  have hb := C.2.1
  intro σ H locs cells slots ls hf I hl
  unfold f_X9_writeSix_129 at hf
  refine gw_aload_n hx hb dX9_writeSix_129 rfl (lv_at hl 0 rfl) ?_
  refine gw_aload_n hx hb dX9_writeSix_130 rfl (lv_at hl 0 rfl) ?_
  refine gw_getr (k := 6) C I gcls_8 (by decide) rfl kw_170 dX9_writeSix_131 hf (fun v1 hf => ?_)
  refine lv_bipush (v := 8) hx hb dX9_writeSix_134 kc_b_8 ?_
  refine lv_iload_n hx hb dX9_writeSix_136 rfl (lv_at hl 1 rfl) ?_
  refine lv_imul hx hb dX9_writeSix_137 ?_
  refine lv_iload hx hb dX9_writeSix_138 (lv_at hl 4 rfl) ?_
  refine lv_iadd hx hb dX9_writeSix_140 ?_
  refine gw_iald C I dX9_writeSix_141 hf (fun v2 hf => ?_)
  refine gw_callV (rest := []) C I hl.1 gcls_8 (m_X9_putHex G l x0 v2) gl_RX9_278 gn_X9_putHex ⟨Nat.le_of_ble_eq_true rfl, Nat.le_of_ble_eq_true rfl⟩ rfl (gc4 (Nat.le_of_ble_eq_true rfl)) rfl dX9_writeSix_142 hf (fun _ σ H locs cells slots I hf => ?_)
  refine W.eq (g2 := F0 m 145 ls []) rfl ?_
  refine lv_iconst (v := 1) hx hb dX9_writeSix_145 kc_i_1 ?_
  refine lv_istore (lv' := [(5, .int 1), (0, va_rf x0), (1, .int x1), (2, .int x2), (3, .int x3), (4, .int x4)]) hx hb dX9_writeSix_146 hl (by decide) rfl (fun ls hl => ?_)
  refine lv_iinc (v := x4 + 1) (lv' := [(4, .int (x4 + 1)), (5, .int 1), (0, va_rf x0), (1, .int x1), (2, .int x2), (3, .int x3)]) hx hb dX9_writeSix_148 hl (k := 5) rfl rfl (by decide) rfl (fun ls hl => ?_)
  refine lv_goto (tgt := 81) hx hb dX9_writeSix_151 (by decide) ?_
  exact hrec81 x0 x1 x2 x3 (x4 + 1) 1 _ _ _ _ _ _ hf I (lv_sub hl [2, 3, 4, 5, 0, 1] rfl)
set_option maxHeartbeats 4000000 in
set_option maxRecDepth 100000 in
theorem w_X9_writeSix_81 (C : gC G p s m args meth c cX9_writeSix 6 RX9) (hr : meth.sig.returnType = none) {rec81 : Option Nat → Int32 → Int32 → Int32 → Int32 → Int32 → gM Unit} (hrec81 : ∀ (x0 : Option Nat) (x1 : Int32) (x2 : Int32) (x3 : Int32) (x4 : Int32) (x5 : Int32), gJ G p l e 2 45 mc ms s m args below meth c grv y 6 81 [(0, va_rf x0), (1, .int x1), (2, .int x2), (3, .int x3), (4, .int x4), (5, .int x5)] [] (rec81 x0 x1 x2 x3 x4 x5)) (x0 : Option Nat) (x1 : Int32) (x2 : Int32) (x3 : Int32) (x4 : Int32) (x5 : Int32) : gJ G p l e 2 45 mc ms s m args below meth c grv y 6 81 [(0, va_rf x0), (1, .int x1), (2, .int x2), (3, .int x3), (4, .int x4), (5, .int x5)] [] (f_X9_writeSix_81 rec81 x0 x1 x2 x3 x4 x5) := by
  have hx := C.1
  have hb := C.2.1
  intro σ H locs cells slots ls hf I hl
  unfold f_X9_writeSix_81 at hf
  refine lv_iload hx hb dX9_writeSix_81 (lv_at hl 4 rfl) ?_
  refine lv_bipush (v := 8) hx hb dX9_writeSix_83 kc_b_8 ?_
  refine lv_icmp_ge (tgt := 154) hx hb dX9_writeSix_85 (by decide) (fun hq => ?_) (fun hq => ?_)
  · have hf := gift hq hf
    refine gw_aload_n hx hb dX9_writeSix_154 rfl (lv_at hl 0 rfl) ?_
    refine lv_bipush (v := 93) hx hb dX9_writeSix_155 kc_b_93 ?_
    refine gw_callV (rest := []) C I hl.1 gcls_8 (m_X9_put G l x0 93) gl_RX9_269 gn_X9_put ⟨Nat.le_of_ble_eq_true rfl, Nat.le_of_ble_eq_true rfl⟩ rfl (gc4 (Nat.le_of_ble_eq_true rfl)) rfl dX9_writeSix_157 hf (fun _ σ H locs cells slots I hf => ?_)
    refine W.eq (g2 := F0 m 160 ls []) rfl ?_
    exact gw_vret C I hr dX9_writeSix_160 hf
  · have hf := giff hq hf
    refine lv_iload hx hb dX9_writeSix_88 (lv_at hl 4 rfl) ?_
    refine lv_iload_n hx hb dX9_writeSix_90 rfl (lv_at hl 2 rfl) ?_
    refine lv_icmp_ne (tgt := 118) hx hb dX9_writeSix_91 (by decide) (fun hq => ?_) (fun hq => ?_)
    · have hf := giff hq hf
      refine lv_iload hx hb dX9_writeSix_118 (lv_at hl 5 rfl) ?_
      refine lv_if_eq (tgt := 129) hx hb dX9_writeSix_120 (by decide) (fun hq => ?_) (fun hq => ?_)
      · have hf := gift hq hf
        exact w_X9_writeSix_129 C hr hrec81 x0 x1 x2 x3 x4 _ _ _ _ _ _ hf I (lv_sub hl [0, 1, 2, 3, 4] rfl)
      · have hf := giff hq hf
        refine gw_aload_n hx hb dX9_writeSix_123 rfl (lv_at hl 0 rfl) ?_
        refine lv_bipush (v := 58) hx hb dX9_writeSix_124 kc_b_58 ?_
        refine gw_callV (rest := []) C I hl.1 gcls_8 (m_X9_put G l x0 58) gl_RX9_269 gn_X9_put ⟨Nat.le_of_ble_eq_true rfl, Nat.le_of_ble_eq_true rfl⟩ rfl (gc4 (Nat.le_of_ble_eq_true rfl)) rfl dX9_writeSix_126 hf (fun _ σ H locs cells slots I hf => ?_)
        refine W.eq (g2 := F0 m 129 ls []) rfl ?_
        exact w_X9_writeSix_129 C hr hrec81 x0 x1 x2 x3 x4 _ _ _ _ _ _ hf I (lv_sub hl [0, 1, 2, 3, 4] rfl)
    · have hf := gift hq hf
      refine gw_aload_n hx hb dX9_writeSix_94 rfl (lv_at hl 0 rfl) ?_
      refine lv_bipush (v := 58) hx hb dX9_writeSix_95 kc_b_58 ?_
      refine gw_callV (rest := []) C I hl.1 gcls_8 (m_X9_put G l x0 58) gl_RX9_269 gn_X9_put ⟨Nat.le_of_ble_eq_true rfl, Nat.le_of_ble_eq_true rfl⟩ rfl (gc4 (Nat.le_of_ble_eq_true rfl)) rfl dX9_writeSix_97 hf (fun _ σ H locs cells slots I hf => ?_)
      refine W.eq (g2 := F0 m 100 ls []) rfl ?_
      refine gw_aload_n hx hb dX9_writeSix_100 rfl (lv_at hl 0 rfl) ?_
      refine lv_bipush (v := 58) hx hb dX9_writeSix_101 kc_b_58 ?_
      refine gw_callV (rest := []) C I hl.1 gcls_8 (m_X9_put G l x0 58) gl_RX9_269 gn_X9_put ⟨Nat.le_of_ble_eq_true rfl, Nat.le_of_ble_eq_true rfl⟩ rfl (gc4 (Nat.le_of_ble_eq_true rfl)) rfl dX9_writeSix_103 hf (fun _ σ H locs cells slots I hf => ?_)
      refine W.eq (g2 := F0 m 106 ls []) rfl ?_
      refine lv_iload hx hb dX9_writeSix_106 (lv_at hl 4 rfl) ?_
      refine lv_iload_n hx hb dX9_writeSix_108 rfl (lv_at hl 3 rfl) ?_
      refine lv_iadd hx hb dX9_writeSix_109 ?_
      refine lv_istore (lv' := [(4, .int (x4 + x3)), (0, va_rf x0), (1, .int x1), (2, .int x2), (3, .int x3), (5, .int x5)]) hx hb dX9_writeSix_110 hl (by decide) rfl (fun ls hl => ?_)
      refine lv_iconst (v := 0) hx hb dX9_writeSix_112 kc_i_0 ?_
      refine lv_istore (lv' := [(5, .int 0), (4, .int (x4 + x3)), (0, va_rf x0), (1, .int x1), (2, .int x2), (3, .int x3)]) hx hb dX9_writeSix_113 hl (by decide) rfl (fun ls hl => ?_)
      refine lv_goto (tgt := 81) hx hb dX9_writeSix_115 (by decide) ?_
      exact hrec81 x0 x1 x2 x3 (x4 + x3) 0 _ _ _ _ _ _ hf I (lv_sub hl [2, 3, 4, 5, 1, 0] rfl)
theorem w_X9_writeSix_L81 (C : gC G p s m args meth c cX9_writeSix 6 RX9) (hr : meth.sig.returnType = none)  : ∀ (n : Nat) (x0 : Option Nat) (x1 : Int32) (x2 : Int32) (x3 : Int32) (x4 : Int32) (x5 : Int32), gJ G p l e 2 45 mc ms s m args below meth c grv y 6 81 [(0, va_rf x0), (1, .int x1), (2, .int x2), (3, .int x3), (4, .int x4), (5, .int x5)] [] (f_X9_writeSix_L81  n x0 x1 x2 x3 x4 x5) := by
  intro n
  induction n with
  | zero => intro x0 x1 x2 x3 x4 x5 σ H locs cells slots ls hf; exact (gno_some hf).elim
  | succ n ih => intro x0 x1 x2 x3 x4 x5; exact w_X9_writeSix_81 C hr  ih x0 x1 x2 x3 x4 x5
set_option maxHeartbeats 4000000 in
set_option maxRecDepth 100000 in
theorem w_X9_writeSix_7 (C : gC G p s m args meth c cX9_writeSix 6 RX9) (hr : meth.sig.returnType = none) {rec7 : Option Nat → Int32 → Int32 → Int32 → Int32 → gM Unit} (hrec7 : ∀ (x0 : Option Nat) (x1 : Int32) (x2 : Int32) (x3 : Int32) (x4 : Int32), gJ G p l e 2 45 mc ms s m args below meth c grv y 6 7 [(0, va_rf x0), (1, .int x1), (2, .int x2), (3, .int x3), (4, .int x4)] [] (rec7 x0 x1 x2 x3 x4)) (x0 : Option Nat) (x1 : Int32) (x2 : Int32) (x3 : Int32) (x4 : Int32) : gJ G p l e 2 45 mc ms s m args below meth c grv y 6 7 [(0, va_rf x0), (1, .int x1), (2, .int x2), (3, .int x3), (4, .int x4)] [] (f_X9_writeSix_7 rec7 x0 x1 x2 x3 x4) := by
  have hx := C.1
  have hb := C.2.1
  intro σ H locs cells slots ls hf I hl
  unfold f_X9_writeSix_7 at hf
  refine lv_iload hx hb dX9_writeSix_7 (lv_at hl 4 rfl) ?_
  refine lv_bipush (v := 8) hx hb dX9_writeSix_9 kc_b_8 ?_
  refine lv_icmp_ge (tgt := 69) hx hb dX9_writeSix_11 (by decide) (fun hq => ?_) (fun hq => ?_)
  · have hf := gift hq hf
    refine gw_aload_n hx hb dX9_writeSix_69 rfl (lv_at hl 0 rfl) ?_
    refine lv_bipush (v := 91) hx hb dX9_writeSix_70 kc_b_91 ?_
    refine gw_callV (rest := []) C I hl.1 gcls_8 (m_X9_put G l x0 91) gl_RX9_269 gn_X9_put ⟨Nat.le_of_ble_eq_true rfl, Nat.le_of_ble_eq_true rfl⟩ rfl (gc4 (Nat.le_of_ble_eq_true rfl)) rfl dX9_writeSix_72 hf (fun _ σ H locs cells slots I hf => ?_)
    refine W.eq (g2 := F0 m 75 ls []) rfl ?_
    refine lv_iconst (v := 0) hx hb dX9_writeSix_75 kc_i_0 ?_
    refine lv_istore (lv' := [(4, .int 0), (0, va_rf x0), (1, .int x1), (2, .int x2), (3, .int x3)]) hx hb dX9_writeSix_76 hl (by decide) rfl (fun ls hl => ?_)
    refine lv_iconst (v := 0) hx hb dX9_writeSix_78 kc_i_0 ?_
    refine lv_istore (lv' := [(5, .int 0), (4, .int 0), (0, va_rf x0), (1, .int x1), (2, .int x2), (3, .int x3)]) hx hb dX9_writeSix_79 hl (by decide) rfl (fun ls hl => ?_)
    exact w_X9_writeSix_L81 C hr  _ x0 x1 x2 x3 0 0 _ _ _ _ _ _ hf I (lv_sub hl [2, 3, 4, 5, 1, 0] rfl)
  · have hf := giff hq hf
    refine lv_iconst (v := 0) hx hb dX9_writeSix_14 kc_i_0 ?_
    refine lv_istore (lv' := [(5, .int 0), (0, va_rf x0), (1, .int x1), (2, .int x2), (3, .int x3), (4, .int x4)]) hx hb dX9_writeSix_15 hl (by decide) rfl (fun ls hl => ?_)
    exact w_X9_writeSix_L17 C hr hrec7 _ x0 x1 x2 x3 x4 0 _ _ _ _ _ _ hf I (lv_sub hl [1, 2, 3, 4, 5, 0] rfl)
theorem w_X9_writeSix_L7 (C : gC G p s m args meth c cX9_writeSix 6 RX9) (hr : meth.sig.returnType = none)  : ∀ (n : Nat) (x0 : Option Nat) (x1 : Int32) (x2 : Int32) (x3 : Int32) (x4 : Int32), gJ G p l e 2 45 mc ms s m args below meth c grv y 6 7 [(0, va_rf x0), (1, .int x1), (2, .int x2), (3, .int x3), (4, .int x4)] [] (f_X9_writeSix_L7  n x0 x1 x2 x3 x4) := by
  intro n
  induction n with
  | zero => intro x0 x1 x2 x3 x4 σ H locs cells slots ls hf; exact (gno_some hf).elim
  | succ n ih => intro x0 x1 x2 x3 x4; exact w_X9_writeSix_7 C hr  ih x0 x1 x2 x3 x4
set_option maxHeartbeats 4000000 in
set_option maxRecDepth 100000 in
theorem w_X9_writeSix_0 (C : gC G p s m args meth c cX9_writeSix 6 RX9) (hr : meth.sig.returnType = none)  (a0 : Option Nat) (a1 : Int32) : gJ G p l e 2 45 mc ms s m args below meth c grv y 6 0 [(0, va_rf a0), (1, .int a1)] [] (f_X9_writeSix  a0 a1) := by
  have hx := C.1
  have hb := C.2.1
  intro σ H locs cells slots ls hf I hl
  unfold f_X9_writeSix at hf
  refine lv_iconst (v := (-1)) hx hb dX9_writeSix_0 kc_i_m1 ?_
  refine lv_istore_n (lv' := [(2, .int (-1)), (0, va_rf a0), (1, .int a1)]) hx hb dX9_writeSix_1 rfl hl (by decide) rfl (fun ls hl => ?_)
  refine lv_iconst (v := 1) hx hb dX9_writeSix_2 kc_i_1 ?_
  refine lv_istore_n (lv' := [(3, .int 1), (2, .int (-1)), (0, va_rf a0), (1, .int a1)]) hx hb dX9_writeSix_3 rfl hl (by decide) rfl (fun ls hl => ?_)
  refine lv_iconst (v := 0) hx hb dX9_writeSix_4 kc_i_0 ?_
  refine lv_istore (lv' := [(4, .int 0), (3, .int 1), (2, .int (-1)), (0, va_rf a0), (1, .int a1)]) hx hb dX9_writeSix_5 hl (by decide) rfl (fun ls hl => ?_)
  exact w_X9_writeSix_L7 C hr  _ a0 a1 (-1) 1 0 _ _ _ _ _ _ hf I (lv_sub hl [3, 4, 2, 1, 0] rfl)
end S_X9_writeSix
theorem m_X9_writeSix (G : gX) (l : Launch) (a0 : Option Nat) (a1 : Int32) : gMet G l yX9_writeSix cX9_writeSix 6 none 2 45 [va_rf a0, .int a1] grv (f_X9_writeSix a0 a1) := by
  refine gMet_of (by decide) ?_
  intro σ y p e s m below meth c mc ms hf C hr hnm I
  obtain ⟨ls, e1, hl⟩ := gentry m [va_rf a0, .int a1] 6 [(0, va_rf a0), (1, .int a1)] (by simp [lg_sl, grc, gcat_i, gcat_l]) (by simp [lv_args, grc, gcat_i, gcat_l])
  rw [e1]
  exact w_X9_writeSix_0 C hr a0 a1 _ _ _ _ _ _ hf I hl
def f_X9_writeHost_16 (rec16 : Option Nat → Int32 → Int32 → gM Unit) (x0 : Option Nat) (x1 : Int32) (x2 : Int32) : gM Unit := gb (nn 8 x0) fun _ => gb (f_X9_sizeOf x0 x1 2) fun v1 => if v1 ≤ x2 then (gp ()) else (gb (rR 8 9 x0) fun v2 => gb (nn 8 x0) fun _ => gb (f_X9_row x0 x1 2) fun v3 => gb (aI 0 v2 (v3 + x2)) fun v4 => gb (nn 8 x0) fun _ => gb (f_X9_put x0 v4) fun _ => rec16 x0 x1 (x2 + 1))
def f_X9_writeHost_L16  : Nat → Option Nat → Int32 → Int32 → gM Unit
  | 0, _, _, _ => gno
  | n + 1, x0, x1, x2 => f_X9_writeHost_16  (f_X9_writeHost_L16  n) x0 x1 x2
def f_X9_writeHost_79 (rec64 : Option Nat → Int32 → Int32 → gM Unit) (x0 : Option Nat) (x1 : Int32) (x2 : Int32) : gM Unit := gb (rR 8 6 x0) fun v1 => gb (aI 1 v1 (8 * x1)) fun v2 => gb (nn 8 x0) fun _ => gb (f_X9_putDecimal x0 ((v2 >>> ((24 - (8 * x2)) &&& 31)) &&& 255)) fun _ => rec64 x0 x1 (x2 + 1)
def f_X9_writeHost_64 (rec64 : Option Nat → Int32 → Int32 → gM Unit) (x0 : Option Nat) (x1 : Int32) (x2 : Int32) : gM Unit := if 4 ≤ x2 then (gp ()) else (if x2 ≤ 0 then (f_X9_writeHost_79 rec64 x0 x1 x2) else (gb (nn 8 x0) fun _ => gb (f_X9_put x0 46) fun _ => f_X9_writeHost_79 rec64 x0 x1 x2))
def f_X9_writeHost_L64  : Nat → Option Nat → Int32 → Int32 → gM Unit
  | 0, _, _, _ => gno
  | n + 1, x0, x1, x2 => f_X9_writeHost_64  (f_X9_writeHost_L64  n) x0 x1 x2
def f_X9_writeHost  (a0 : Option Nat) (a1 : Int32) : gM Unit := gb (wI 8 19 a0 0) fun _ => gb (rR 8 5 a0) fun v1 => gb (aI 1 v1 a1) fun v2 => if v2 = 0 then (f_X9_writeHost_L16  gF a0 a1 0) else (gb (rR 8 5 a0) fun v3 => gb (aI 1 v3 a1) fun v4 => if v4 = 4 then (f_X9_writeHost_L64  gF a0 a1 0) else (gb (nn 8 a0) fun _ => gb (f_X9_writeSix a0 a1) fun _ => gp ()))
section S_X9_writeHost
variable {G : gX} {p : Program} {l : Launch} {e : Env} {s : State} {m : MethodId} {args : Array Value} {below : List Frame} {meth : Method} {c : Code} {mc ms : Nat} {y : Unit × gS}
set_option maxHeartbeats 4000000 in
set_option maxRecDepth 100000 in
theorem w_X9_writeHost_16 (C : gC G p s m args meth c cX9_writeHost 3 RX9) (hr : meth.sig.returnType = none) {rec16 : Option Nat → Int32 → Int32 → gM Unit} (hrec16 : ∀ (x0 : Option Nat) (x1 : Int32) (x2 : Int32), gJ G p l e 3 70 mc ms s m args below meth c grv y 3 16 [(0, va_rf x0), (1, .int x1), (2, .int x2)] [] (rec16 x0 x1 x2)) (x0 : Option Nat) (x1 : Int32) (x2 : Int32) : gJ G p l e 3 70 mc ms s m args below meth c grv y 3 16 [(0, va_rf x0), (1, .int x1), (2, .int x2)] [] (f_X9_writeHost_16 rec16 x0 x1 x2) := by
  have hx := C.1
  have hb := C.2.1
  intro σ H locs cells slots ls hf I hl
  unfold f_X9_writeHost_16 at hf
  refine lv_iload_n hx hb dX9_writeHost_16 rfl (lv_at hl 2 rfl) ?_
  refine gw_aload_n hx hb dX9_writeHost_17 rfl (lv_at hl 0 rfl) ?_
  refine lv_iload_n hx hb dX9_writeHost_18 rfl (lv_at hl 1 rfl) ?_
  refine lv_iconst (v := 2) hx hb dX9_writeHost_19 kc_i_2 ?_
  refine gw_callV (rest := [.int x2]) C I hl.1 gcls_8 (m_X9_sizeOf G l x0 x1 2) gl_RX9_107 gn_X9_sizeOf ⟨Nat.le_of_ble_eq_true rfl, Nat.le_of_ble_eq_true rfl⟩ rfl (gc4 (Nat.le_of_ble_eq_true rfl)) rfl dX9_writeHost_20 hf (fun v1 σ H locs cells slots I hf => ?_)
  refine W.eq (g2 := F0 m 23 ls [.int v1, .int x2]) rfl ?_
  refine lv_icmp_ge (tgt := 49) hx hb dX9_writeHost_23 (by decide) (fun hq => ?_) (fun hq => ?_)
  · have hf := gift hq hf
    refine lv_goto (tgt := 118) hx hb dX9_writeHost_49 (by decide) ?_
    exact gw_vret C I hr dX9_writeHost_118 hf
  · have hf := giff hq hf
    refine gw_aload_n hx hb dX9_writeHost_26 rfl (lv_at hl 0 rfl) ?_
    refine gw_aload_n hx hb dX9_writeHost_27 rfl (lv_at hl 0 rfl) ?_
    refine gw_getr (k := 9) C I gcls_8 (by decide) rfl kw_174 dX9_writeHost_28 hf (fun v2 hf => ?_)
    refine gw_aload_n hx hb dX9_writeHost_31 rfl (lv_at hl 0 rfl) ?_
    refine lv_iload_n hx hb dX9_writeHost_32 rfl (lv_at hl 1 rfl) ?_
    refine lv_iconst (v := 2) hx hb dX9_writeHost_33 kc_i_2 ?_
    refine gw_callV (rest := [va_rf v2, va_rf x0]) C I hl.1 gcls_8 (m_X9_row G l x0 x1 2) gl_RX9_111 gn_X9_row ⟨Nat.le_of_ble_eq_true rfl, Nat.le_of_ble_eq_true rfl⟩ rfl (gc4 (Nat.le_of_ble_eq_true rfl)) rfl dX9_writeHost_34 hf (fun v3 σ H locs cells slots I hf => ?_)
    refine W.eq (g2 := F0 m 37 ls [.int v3, va_rf v2, va_rf x0]) rfl ?_
    refine lv_iload_n hx hb dX9_writeHost_37 rfl (lv_at hl 2 rfl) ?_
    refine lv_iadd hx hb dX9_writeHost_38 ?_
    refine gw_bald C I dX9_writeHost_39 hf (fun v4 hf => ?_)
    refine gw_callV (rest := []) C I hl.1 gcls_8 (m_X9_put G l x0 v4) gl_RX9_269 gn_X9_put ⟨Nat.le_of_ble_eq_true rfl, Nat.le_of_ble_eq_true rfl⟩ rfl (gc4 (Nat.le_of_ble_eq_true rfl)) rfl dX9_writeHost_40 hf (fun _ σ H locs cells slots I hf => ?_)
    refine W.eq (g2 := F0 m 43 ls []) rfl ?_
    refine lv_iinc (v := x2 + 1) (lv' := [(2, .int (x2 + 1)), (0, va_rf x0), (1, .int x1)]) hx hb dX9_writeHost_43 hl (k := 2) rfl rfl (by decide) rfl (fun ls hl => ?_)
    refine lv_goto (tgt := 16) hx hb dX9_writeHost_46 (by decide) ?_
    exact hrec16 x0 x1 (x2 + 1) _ _ _ _ _ _ hf I (lv_sub hl [1, 2, 0] rfl)
theorem w_X9_writeHost_L16 (C : gC G p s m args meth c cX9_writeHost 3 RX9) (hr : meth.sig.returnType = none)  : ∀ (n : Nat) (x0 : Option Nat) (x1 : Int32) (x2 : Int32), gJ G p l e 3 70 mc ms s m args below meth c grv y 3 16 [(0, va_rf x0), (1, .int x1), (2, .int x2)] [] (f_X9_writeHost_L16  n x0 x1 x2) := by
  intro n
  induction n with
  | zero => intro x0 x1 x2 σ H locs cells slots ls hf; exact (gno_some hf).elim
  | succ n ih => intro x0 x1 x2; exact w_X9_writeHost_16 C hr  ih x0 x1 x2
set_option maxHeartbeats 4000000 in
set_option maxRecDepth 100000 in
theorem w_X9_writeHost_79 (C : gC G p s m args meth c cX9_writeHost 3 RX9) (hr : meth.sig.returnType = none) {rec64 : Option Nat → Int32 → Int32 → gM Unit} (hrec64 : ∀ (x0 : Option Nat) (x1 : Int32) (x2 : Int32), gJ G p l e 3 70 mc ms s m args below meth c grv y 3 64 [(0, va_rf x0), (1, .int x1), (2, .int x2)] [] (rec64 x0 x1 x2)) (x0 : Option Nat) (x1 : Int32) (x2 : Int32) : gJ G p l e 3 70 mc ms s m args below meth c grv y 3 79 [(0, va_rf x0), (1, .int x1), (2, .int x2)] [] (f_X9_writeHost_79 rec64 x0 x1 x2) := by
  have hx := C.1
  have hb := C.2.1
  intro σ H locs cells slots ls hf I hl
  unfold f_X9_writeHost_79 at hf
  refine gw_aload_n hx hb dX9_writeHost_79 rfl (lv_at hl 0 rfl) ?_
  refine gw_aload_n hx hb dX9_writeHost_80 rfl (lv_at hl 0 rfl) ?_
  refine gw_getr (k := 6) C I gcls_8 (by decide) rfl kw_170 dX9_writeHost_81 hf (fun v1 hf => ?_)
  refine lv_bipush (v := 8) hx hb dX9_writeHost_84 kc_b_8 ?_
  refine lv_iload_n hx hb dX9_writeHost_86 rfl (lv_at hl 1 rfl) ?_
  refine lv_imul hx hb dX9_writeHost_87 ?_
  refine gw_iald C I dX9_writeHost_88 hf (fun v2 hf => ?_)
  refine lv_bipush (v := 24) hx hb dX9_writeHost_89 kc_b_24 ?_
  refine lv_bipush (v := 8) hx hb dX9_writeHost_91 kc_b_8 ?_
  refine lv_iload_n hx hb dX9_writeHost_93 rfl (lv_at hl 2 rfl) ?_
  refine lv_imul hx hb dX9_writeHost_94 ?_
  refine lv_isub hx hb dX9_writeHost_95 ?_
  refine lv_ishr hx hb dX9_writeHost_96 ?_
  refine lv_sipush (v := 255) hx hb dX9_writeHost_97 kc_s_255 ?_
  refine lv_iand hx hb dX9_writeHost_100 ?_
  refine gw_callV (rest := []) C I hl.1 gcls_8 (m_X9_putDecimal G l x0 ((v2 >>> ((24 - (8 * x2)) &&& 31)) &&& 255)) gl_RX9_272 gn_X9_putDecimal ⟨Nat.le_of_ble_eq_true rfl, Nat.le_of_ble_eq_true rfl⟩ rfl (gc4 (Nat.le_of_ble_eq_true rfl)) rfl dX9_writeHost_101 hf (fun _ σ H locs cells slots I hf => ?_)
  refine W.eq (g2 := F0 m 104 ls []) rfl ?_
  refine lv_iinc (v := x2 + 1) (lv' := [(2, .int (x2 + 1)), (0, va_rf x0), (1, .int x1)]) hx hb dX9_writeHost_104 hl (k := 2) rfl rfl (by decide) rfl (fun ls hl => ?_)
  refine lv_goto (tgt := 64) hx hb dX9_writeHost_107 (by decide) ?_
  exact hrec64 x0 x1 (x2 + 1) _ _ _ _ _ _ hf I (lv_sub hl [1, 2, 0] rfl)
set_option maxHeartbeats 4000000 in
set_option maxRecDepth 100000 in
theorem w_X9_writeHost_64 (C : gC G p s m args meth c cX9_writeHost 3 RX9) (hr : meth.sig.returnType = none) {rec64 : Option Nat → Int32 → Int32 → gM Unit} (hrec64 : ∀ (x0 : Option Nat) (x1 : Int32) (x2 : Int32), gJ G p l e 3 70 mc ms s m args below meth c grv y 3 64 [(0, va_rf x0), (1, .int x1), (2, .int x2)] [] (rec64 x0 x1 x2)) (x0 : Option Nat) (x1 : Int32) (x2 : Int32) : gJ G p l e 3 70 mc ms s m args below meth c grv y 3 64 [(0, va_rf x0), (1, .int x1), (2, .int x2)] [] (f_X9_writeHost_64 rec64 x0 x1 x2) := by
  have hx := C.1
  have hb := C.2.1
  intro σ H locs cells slots ls hf I hl
  unfold f_X9_writeHost_64 at hf
  refine lv_iload_n hx hb dX9_writeHost_64 rfl (lv_at hl 2 rfl) ?_
  refine lv_iconst (v := 4) hx hb dX9_writeHost_65 kc_i_4 ?_
  refine lv_icmp_ge (tgt := 110) hx hb dX9_writeHost_66 (by decide) (fun hq => ?_) (fun hq => ?_)
  · have hf := gift hq hf
    refine lv_goto (tgt := 118) hx hb dX9_writeHost_110 (by decide) ?_
    exact gw_vret C I hr dX9_writeHost_118 hf
  · have hf := giff hq hf
    refine lv_iload_n hx hb dX9_writeHost_69 rfl (lv_at hl 2 rfl) ?_
    refine lv_if_le (tgt := 79) hx hb dX9_writeHost_70 (by decide) (fun hq => ?_) (fun hq => ?_)
    · have hf := gift hq hf
      exact w_X9_writeHost_79 C hr hrec64 x0 x1 x2 _ _ _ _ _ _ hf I (lv_sub hl [0, 1, 2] rfl)
    · have hf := giff hq hf
      refine gw_aload_n hx hb dX9_writeHost_73 rfl (lv_at hl 0 rfl) ?_
      refine lv_bipush (v := 46) hx hb dX9_writeHost_74 kc_b_46 ?_
      refine gw_callV (rest := []) C I hl.1 gcls_8 (m_X9_put G l x0 46) gl_RX9_269 gn_X9_put ⟨Nat.le_of_ble_eq_true rfl, Nat.le_of_ble_eq_true rfl⟩ rfl (gc4 (Nat.le_of_ble_eq_true rfl)) rfl dX9_writeHost_76 hf (fun _ σ H locs cells slots I hf => ?_)
      refine W.eq (g2 := F0 m 79 ls []) rfl ?_
      exact w_X9_writeHost_79 C hr hrec64 x0 x1 x2 _ _ _ _ _ _ hf I (lv_sub hl [0, 1, 2] rfl)
theorem w_X9_writeHost_L64 (C : gC G p s m args meth c cX9_writeHost 3 RX9) (hr : meth.sig.returnType = none)  : ∀ (n : Nat) (x0 : Option Nat) (x1 : Int32) (x2 : Int32), gJ G p l e 3 70 mc ms s m args below meth c grv y 3 64 [(0, va_rf x0), (1, .int x1), (2, .int x2)] [] (f_X9_writeHost_L64  n x0 x1 x2) := by
  intro n
  induction n with
  | zero => intro x0 x1 x2 σ H locs cells slots ls hf; exact (gno_some hf).elim
  | succ n ih => intro x0 x1 x2; exact w_X9_writeHost_64 C hr  ih x0 x1 x2
set_option maxHeartbeats 4000000 in
set_option maxRecDepth 100000 in
theorem w_X9_writeHost_0 (C : gC G p s m args meth c cX9_writeHost 3 RX9) (hr : meth.sig.returnType = none)  (a0 : Option Nat) (a1 : Int32) : gJ G p l e 3 70 mc ms s m args below meth c grv y 3 0 [(0, va_rf a0), (1, .int a1)] [] (f_X9_writeHost  a0 a1) := by
  have hx := C.1
  have hb := C.2.1
  intro σ H locs cells slots ls hf I hl
  unfold f_X9_writeHost at hf
  refine gw_aload_n hx hb dX9_writeHost_0 rfl (lv_at hl 0 rfl) ?_
  refine lv_iconst (v := 0) hx hb dX9_writeHost_1 kc_i_0 ?_
  refine gw_puti (k := 19) C I gcls_8 (by decide) rfl kw_218 (Or.inl rfl) (by decide +kernel) dX9_writeHost_2 hf (fun σ H locs I hf => ?_)
  refine gw_aload_n hx hb dX9_writeHost_5 rfl (lv_at hl 0 rfl) ?_
  refine gw_getr (k := 5) C I gcls_8 (by decide) rfl kw_169 dX9_writeHost_6 hf (fun v1 hf => ?_)
  refine lv_iload_n hx hb dX9_writeHost_9 rfl (lv_at hl 1 rfl) ?_
  refine gw_iald C I dX9_writeHost_10 hf (fun v2 hf => ?_)
  refine lv_if_ne (tgt := 52) hx hb dX9_writeHost_11 (by decide) (fun hq => ?_) (fun hq => ?_)
  · have hf := giff hq hf
    refine gw_aload_n hx hb dX9_writeHost_52 rfl (lv_at hl 0 rfl) ?_
    refine gw_getr (k := 5) C I gcls_8 (by decide) rfl kw_169 dX9_writeHost_53 hf (fun v3 hf => ?_)
    refine lv_iload_n hx hb dX9_writeHost_56 rfl (lv_at hl 1 rfl) ?_
    refine gw_iald C I dX9_writeHost_57 hf (fun v4 hf => ?_)
    refine lv_iconst (v := 4) hx hb dX9_writeHost_58 kc_i_4 ?_
    refine lv_icmp_ne (tgt := 113) hx hb dX9_writeHost_59 (by decide) (fun hq => ?_) (fun hq => ?_)
    · have hf := giff hq hf
      refine gw_aload_n hx hb dX9_writeHost_113 rfl (lv_at hl 0 rfl) ?_
      refine lv_iload_n hx hb dX9_writeHost_114 rfl (lv_at hl 1 rfl) ?_
      refine gw_callV (rest := []) C I hl.1 gcls_8 (m_X9_writeSix G l a0 a1) gl_RX9_275 gn_X9_writeSix ⟨Nat.le_of_ble_eq_true rfl, Nat.le_of_ble_eq_true rfl⟩ rfl (gc4 (Nat.le_of_ble_eq_true rfl)) rfl dX9_writeHost_115 hf (fun _ σ H locs cells slots I hf => ?_)
      refine W.eq (g2 := F0 m 118 ls []) rfl ?_
      exact gw_vret C I hr dX9_writeHost_118 hf
    · have hf := gift hq hf
      refine lv_iconst (v := 0) hx hb dX9_writeHost_62 kc_i_0 ?_
      refine lv_istore_n (lv' := [(2, .int 0), (0, va_rf a0), (1, .int a1)]) hx hb dX9_writeHost_63 rfl hl (by decide) rfl (fun ls hl => ?_)
      exact w_X9_writeHost_L64 C hr  _ a0 a1 0 _ _ _ _ _ _ hf I (lv_sub hl [1, 2, 0] rfl)
  · have hf := gift hq hf
    refine lv_iconst (v := 0) hx hb dX9_writeHost_14 kc_i_0 ?_
    refine lv_istore_n (lv' := [(2, .int 0), (0, va_rf a0), (1, .int a1)]) hx hb dX9_writeHost_15 rfl hl (by decide) rfl (fun ls hl => ?_)
    exact w_X9_writeHost_L16 C hr  _ a0 a1 0 _ _ _ _ _ _ hf I (lv_sub hl [1, 2, 0] rfl)
end S_X9_writeHost
theorem m_X9_writeHost (G : gX) (l : Launch) (a0 : Option Nat) (a1 : Int32) : gMet G l yX9_writeHost cX9_writeHost 3 none 3 70 [va_rf a0, .int a1] grv (f_X9_writeHost a0 a1) := by
  refine gMet_of (by decide) ?_
  intro σ y p e s m below meth c mc ms hf C hr hnm I
  obtain ⟨ls, e1, hl⟩ := gentry m [va_rf a0, .int a1] 3 [(0, va_rf a0), (1, .int a1)] (by simp [lg_sl, grc, gcat_i, gcat_l]) (by simp [lv_args, grc, gcat_i, gcat_l])
  rw [e1]
  exact w_X9_writeHost_0 C hr a0 a1 _ _ _ _ _ _ hf I hl
def f_X9_digitsOf  (a0 : Int32) : gM Int32 := if a0 ≤ 9999 then (if a0 ≤ 999 then (if a0 ≤ 99 then (if a0 ≤ 9 then (gp 1) else (gp 2)) else (gp 3)) else (gp 4)) else (gp 5)
section S_X9_digitsOf
variable {G : gX} {p : Program} {l : Launch} {e : Env} {s : State} {m : MethodId} {args : Array Value} {below : List Frame} {meth : Method} {c : Code} {mc ms : Nat} {y : Int32 × gS}
set_option maxHeartbeats 4000000 in
set_option maxRecDepth 100000 in
theorem w_X9_digitsOf_0 (C : gC G p s m args meth c cX9_digitsOf 1 RX9) (hr : meth.sig.returnType = (some .int))  (a0 : Int32) : gJ G p l e 0 0 mc ms s m args below meth c gri y 1 0 [(0, .int a0)] [] (f_X9_digitsOf  a0) := by
  have hx := C.1
  have hb := C.2.1
  intro σ H locs cells slots ls hf I hl
  unfold f_X9_digitsOf at hf
  refine lv_iload_n hx hb dX9_digitsOf_0 rfl (lv_at hl 0 rfl) ?_
  refine lv_sipush (v := 9999) hx hb dX9_digitsOf_1 kc_s_9999 ?_
  refine lv_icmp_le (tgt := 11) hx hb dX9_digitsOf_4 (by decide) (fun hq => ?_) (fun hq => ?_)
  · have hf := gift hq hf
    refine lv_iload_n hx hb dX9_digitsOf_11 rfl (lv_at hl 0 rfl) ?_
    refine lv_sipush (v := 999) hx hb dX9_digitsOf_12 kc_s_999 ?_
    refine lv_icmp_le (tgt := 22) hx hb dX9_digitsOf_15 (by decide) (fun hq => ?_) (fun hq => ?_)
    · have hf := gift hq hf
      refine lv_iload_n hx hb dX9_digitsOf_22 rfl (lv_at hl 0 rfl) ?_
      refine lv_bipush (v := 99) hx hb dX9_digitsOf_23 kc_b_99 ?_
      refine lv_icmp_le (tgt := 32) hx hb dX9_digitsOf_25 (by decide) (fun hq => ?_) (fun hq => ?_)
      · have hf := gift hq hf
        refine lv_iload_n hx hb dX9_digitsOf_32 rfl (lv_at hl 0 rfl) ?_
        refine lv_bipush (v := 9) hx hb dX9_digitsOf_33 kc_b_9 ?_
        refine lv_icmp_le (tgt := 42) hx hb dX9_digitsOf_35 (by decide) (fun hq => ?_) (fun hq => ?_)
        · have hf := gift hq hf
          refine lv_iconst (v := 1) hx hb dX9_digitsOf_42 kc_i_1 ?_
          exact gw_iret C I hr dX9_digitsOf_43 hf
        · have hf := giff hq hf
          refine lv_iconst (v := 2) hx hb dX9_digitsOf_38 kc_i_2 ?_
          refine lv_goto (tgt := 43) hx hb dX9_digitsOf_39 (by decide) ?_
          exact gw_iret C I hr dX9_digitsOf_43 hf
      · have hf := giff hq hf
        refine lv_iconst (v := 3) hx hb dX9_digitsOf_28 kc_i_3 ?_
        refine lv_goto (tgt := 43) hx hb dX9_digitsOf_29 (by decide) ?_
        exact gw_iret C I hr dX9_digitsOf_43 hf
    · have hf := giff hq hf
      refine lv_iconst (v := 4) hx hb dX9_digitsOf_18 kc_i_4 ?_
      refine lv_goto (tgt := 43) hx hb dX9_digitsOf_19 (by decide) ?_
      exact gw_iret C I hr dX9_digitsOf_43 hf
  · have hf := giff hq hf
    refine lv_iconst (v := 5) hx hb dX9_digitsOf_7 kc_i_5 ?_
    refine lv_goto (tgt := 43) hx hb dX9_digitsOf_8 (by decide) ?_
    exact gw_iret C I hr dX9_digitsOf_43 hf
end S_X9_digitsOf
theorem m_X9_digitsOf (G : gX) (l : Launch) (a0 : Int32) : gMet G l yX9_digitsOf cX9_digitsOf 1 (some .int) 0 0 [.int a0] gri (f_X9_digitsOf a0) := by
  refine gMet_of (by decide) ?_
  intro σ y p e s m below meth c mc ms hf C hr hnm I
  obtain ⟨ls, e1, hl⟩ := gentry m [.int a0] 1 [(0, .int a0)] (by simp [lg_sl, grc, gcat_i, gcat_l]) (by simp [lv_args, grc, gcat_i, gcat_l])
  rw [e1]
  exact w_X9_digitsOf_0 C hr a0 _ _ _ _ _ _ hf I hl
