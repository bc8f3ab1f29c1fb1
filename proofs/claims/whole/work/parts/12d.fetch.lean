/-! decode rows -/
theorem zf229_74 : fetch 229 74 = some (.getfield 61, 3) := by decide +kernel
theorem zf229_77 : fetch 229 77 = some (.iload_n 1, 1) := by decide +kernel
theorem zf229_78 : fetch 229 78 = some (.iaload, 1) := by decide +kernel
theorem zf229_79 : fetch 229 79 = some (.iastore, 1) := by decide +kernel
theorem zf229_80 : fetch 229 80 = some (.iinc 1 1, 3) := by decide +kernel
theorem zf229_83 : fetch 229 83 = some (.goto (-31), 3) := by decide +kernel
theorem zf229_11 : fetch 229 11 = some (.iload_n 1, 1) := by decide +kernel
theorem zf229_12 : fetch 229 12 = some (.sipush 10803, 3) := by decide +kernel
theorem zf229_15 : fetch 229 15 = some (.if_icmp .ge 25, 3) := by decide +kernel
theorem zf229_40 : fetch 229 40 = some (.aload_n 0, 1) := by decide +kernel
theorem zf229_41 : fetch 229 41 = some (.dup, 1) := by decide +kernel
theorem zf229_42 : fetch 229 42 = some (.getfield 309, 3) := by decide +kernel
theorem zf229_45 : fetch 229 45 = some (.iconst 1, 1) := by decide +kernel
theorem zf229_46 : fetch 229 46 = some (.isub, 1) := by decide +kernel
theorem zf229_47 : fetch 229 47 = some (.putfield 309, 3) := by decide +kernel
theorem zf229_18 : fetch 229 18 = some (.aload_n 0, 1) := by decide +kernel
theorem zf229_19 : fetch 229 19 = some (.getfield 71, 3) := by decide +kernel
theorem zf229_22 : fetch 229 22 = some (.iload_n 1, 1) := by decide +kernel
theorem zf229_23 : fetch 229 23 = some (.aload_n 0, 1) := by decide +kernel
theorem zf229_24 : fetch 229 24 = some (.getfield 71, 3) := by decide +kernel
theorem zf229_27 : fetch 229 27 = some (.iload_n 1, 1) := by decide +kernel
theorem zf229_28 : fetch 229 28 = some (.sipush 277, 3) := by decide +kernel
theorem zf229_31 : fetch 229 31 = some (.iadd, 1) := by decide +kernel
theorem zf229_32 : fetch 229 32 = some (.iaload, 1) := by decide +kernel
theorem zf229_33 : fetch 229 33 = some (.iastore, 1) := by decide +kernel
theorem zf229_34 : fetch 229 34 = some (.iinc 1 1, 3) := by decide +kernel
theorem zf229_37 : fetch 229 37 = some (.goto (-26), 3) := by decide +kernel
theorem zf230_96 : fetch 230 96 = some (.aload_n 1, 1) := by decide +kernel
theorem zf230_97 : fetch 230 97 = some (.iload_n 2, 1) := by decide +kernel
theorem zf230_98 : fetch 230 98 = some (.invokestatic 300, 3) := by decide +kernel
theorem zf230_101 : fetch 230 101 = some (.iload 7, 2) := by decide +kernel
theorem zf230_103 : fetch 230 103 = some (.iastore, 1) := by decide +kernel
theorem zf230_104 : fetch 230 104 = some (.aload_n 1, 1) := by decide +kernel
theorem zf230_105 : fetch 230 105 = some (.bipush 8, 2) := by decide +kernel
theorem zf230_107 : fetch 230 107 = some (.iload 7, 2) := by decide +kernel
theorem zf230_109 : fetch 230 109 = some (.iadd, 1) := by decide +kernel
theorem zf230_110 : fetch 230 110 = some (.dup2, 1) := by decide +kernel
theorem zf230_111 : fetch 230 111 = some (.iaload, 1) := by decide +kernel
theorem zf230_112 : fetch 230 112 = some (.iload 5, 2) := by decide +kernel
theorem zf230_114 : fetch 230 114 = some (.ior, 1) := by decide +kernel
theorem zf230_115 : fetch 230 115 = some (.iastore, 1) := by decide +kernel
theorem zf230_166 : fetch 230 166 = some (.bipush 37, 2) := by decide +kernel
theorem zf230_168 : fetch 230 168 = some (.iconst 4, 1) := by decide +kernel
theorem zf230_169 : fetch 230 169 = some (.aload_n 1, 1) := by decide +kernel
theorem zf230_170 : fetch 230 170 = some (.bipush 36, 2) := by decide +kernel
theorem zf230_172 : fetch 230 172 = some (.iaload, 1) := by decide +kernel
theorem zf230_173 : fetch 230 173 = some (.imul, 1) := by decide +kernel
theorem zf230_174 : fetch 230 174 = some (.iadd, 1) := by decide +kernel
theorem zf230_175 : fetch 230 175 = some (.istore 8, 2) := by decide +kernel
theorem zf230_177 : fetch 230 177 = some (.aload_n 1, 1) := by decide +kernel
theorem zf230_178 : fetch 230 178 = some (.iload 8, 2) := by decide +kernel
theorem zf230_180 : fetch 230 180 = some (.iload_n 2, 1) := by decide +kernel
theorem zf230_181 : fetch 230 181 = some (.iastore, 1) := by decide +kernel
theorem zf230_182 : fetch 230 182 = some (.aload_n 1, 1) := by decide +kernel
theorem zf230_183 : fetch 230 183 = some (.iload 8, 2) := by decide +kernel
theorem zf230_185 : fetch 230 185 = some (.iconst 1, 1) := by decide +kernel
theorem zf230_186 : fetch 230 186 = some (.iadd, 1) := by decide +kernel
theorem zf230_187 : fetch 230 187 = some (.iload 6, 2) := by decide +kernel
theorem zf230_189 : fetch 230 189 = some (.iastore, 1) := by decide +kernel
theorem zf230_190 : fetch 230 190 = some (.aload_n 1, 1) := by decide +kernel
theorem zf230_191 : fetch 230 191 = some (.iload 8, 2) := by decide +kernel
theorem zf230_193 : fetch 230 193 = some (.iconst 2, 1) := by decide +kernel
theorem zf230_194 : fetch 230 194 = some (.iadd, 1) := by decide +kernel
theorem zf230_195 : fetch 230 195 = some (.iload 7, 2) := by decide +kernel
theorem zf230_197 : fetch 230 197 = some (.iastore, 1) := by decide +kernel
theorem zf230_198 : fetch 230 198 = some (.aload_n 1, 1) := by decide +kernel
theorem zf230_199 : fetch 230 199 = some (.iload 8, 2) := by decide +kernel
theorem zf230_201 : fetch 230 201 = some (.iconst 3, 1) := by decide +kernel
theorem zf230_202 : fetch 230 202 = some (.iadd, 1) := by decide +kernel
theorem zf230_203 : fetch 230 203 = some (.iload_n 3, 1) := by decide +kernel
theorem zf230_204 : fetch 230 204 = some (.iastore, 1) := by decide +kernel
theorem zf230_205 : fetch 230 205 = some (.aload_n 1, 1) := by decide +kernel
theorem zf230_206 : fetch 230 206 = some (.bipush 36, 2) := by decide +kernel
theorem zf230_208 : fetch 230 208 = some (.dup2, 1) := by decide +kernel
theorem zf230_209 : fetch 230 209 = some (.iaload, 1) := by decide +kernel
theorem zf230_210 : fetch 230 210 = some (.iconst 1, 1) := by decide +kernel
theorem zf230_211 : fetch 230 211 = some (.iadd, 1) := by decide +kernel
theorem zf230_212 : fetch 230 212 = some (.iastore, 1) := by decide +kernel
theorem zf230_213 : fetch 230 213 = some (.iload 7, 2) := by decide +kernel
theorem zf230_215 : fetch 230 215 = some (.ireturn, 1) := by decide +kernel
theorem zf230_128 : fetch 230 128 = some (.iload 8, 2) := by decide +kernel
theorem zf230_130 : fetch 230 130 = some (.sipush 236, 3) := by decide +kernel
theorem zf230_133 : fetch 230 133 = some (.if_icmp .gt 25, 3) := by decide +kernel
theorem zf230_158 : fetch 230 158 = some (.aload_n 1, 1) := by decide +kernel
theorem zf230_159 : fetch 230 159 = some (.bipush 36, 2) := by decide +kernel
theorem zf230_161 : fetch 230 161 = some (.dup2, 1) := by decide +kernel
theorem zf230_162 : fetch 230 162 = some (.iaload, 1) := by decide +kernel
theorem zf230_163 : fetch 230 163 = some (.iconst 1, 1) := by decide +kernel
theorem zf230_164 : fetch 230 164 = some (.isub, 1) := by decide +kernel
theorem zf230_165 : fetch 230 165 = some (.iastore, 1) := by decide +kernel
theorem zf230_136 : fetch 230 136 = some (.aload_n 1, 1) := by decide +kernel
theorem zf230_137 : fetch 230 137 = some (.bipush 36, 2) := by decide +kernel
theorem zf230_139 : fetch 230 139 = some (.iload 8, 2) := by decide +kernel
theorem zf230_141 : fetch 230 141 = some (.iadd, 1) := by decide +kernel
theorem zf230_142 : fetch 230 142 = some (.aload_n 1, 1) := by decide +kernel
theorem zf230_143 : fetch 230 143 = some (.bipush 36, 2) := by decide +kernel
theorem zf230_145 : fetch 230 145 = some (.iload 8, 2) := by decide +kernel
theorem zf230_147 : fetch 230 147 = some (.iadd, 1) := by decide +kernel
theorem zf230_148 : fetch 230 148 = some (.iconst 4, 1) := by decide +kernel
theorem zf230_149 : fetch 230 149 = some (.iadd, 1) := by decide +kernel
theorem zf230_150 : fetch 230 150 = some (.iaload, 1) := by decide +kernel
theorem zf230_151 : fetch 230 151 = some (.iastore, 1) := by decide +kernel
theorem zf230_152 : fetch 230 152 = some (.iinc 8 1, 3) := by decide +kernel
theorem zf230_155 : fetch 230 155 = some (.goto (-27), 3) := by decide +kernel
theorem zf192_0 : fetch 192 0 = some (.iload_n 0, 1) := by decide +kernel
theorem zf192_1 : fetch 192 1 = some (.iload_n 1, 1) := by decide +kernel
theorem zf192_2 : fetch 192 2 = some (.ishr, 1) := by decide +kernel
theorem zf192_3 : fetch 192 3 = some (.iconst 1, 1) := by decide +kernel
theorem zf192_4 : fetch 192 4 = some (.iand, 1) := by decide +kernel
theorem zf192_5 : fetch 192 5 = some (.iconst 1, 1) := by decide +kernel
theorem zf192_6 : fetch 192 6 = some (.if_icmp .ne 7, 3) := by decide +kernel
theorem zf192_13 : fetch 192 13 = some (.iconst 0, 1) := by decide +kernel
theorem zf192_14 : fetch 192 14 = some (.ireturn, 1) := by decide +kernel
theorem zf192_9 : fetch 192 9 = some (.iconst 1, 1) := by decide +kernel
theorem zf192_10 : fetch 192 10 = some (.goto 4, 3) := by decide +kernel
theorem zf247_0 : fetch 247 0 = some (.iconst 0, 1) := by decide +kernel
theorem zf247_1 : fetch 247 1 = some (.istore_n 2, 1) := by decide +kernel
theorem zf249_0 : fetch 249 0 = some (.aload_n 0, 1) := by decide +kernel
theorem zf249_1 : fetch 249 1 = some (.aload_n 0, 1) := by decide +kernel
theorem zf249_2 : fetch 249 2 = some (.getfield 406, 3) := by decide +kernel
theorem zf249_5 : fetch 249 5 = some (.ldc2_w 410, 3) := by decide +kernel
theorem zf249_8 : fetch 249 8 = some (.lmul, 1) := by decide +kernel
theorem zf249_9 : fetch 249 9 = some (.ldc2_w 412, 3) := by decide +kernel
theorem zf249_12 : fetch 249 12 = some (.ladd, 1) := by decide +kernel
theorem zf249_13 : fetch 249 13 = some (.putfield 406, 3) := by decide +kernel
theorem zf249_16 : fetch 249 16 = some (.aload_n 0, 1) := by decide +kernel
theorem zf249_17 : fetch 249 17 = some (.getfield 406, 3) := by decide +kernel
theorem zf249_20 : fetch 249 20 = some (.bipush 33, 2) := by decide +kernel
theorem zf249_22 : fetch 249 22 = some (.lushr, 1) := by decide +kernel
theorem zf249_23 : fetch 249 23 = some (.iload_n 1, 1) := by decide +kernel
theorem zf249_24 : fetch 249 24 = some (.i2l, 1) := by decide +kernel
theorem zf249_25 : fetch 249 25 = some (.lrem, 1) := by decide +kernel
theorem zf249_26 : fetch 249 26 = some (.l2i, 1) := by decide +kernel
theorem zf249_27 : fetch 249 27 = some (.ireturn, 1) := by decide +kernel
theorem zf248_65 : fetch 248 65 = some (.aload_n 0, 1) := by decide +kernel
theorem zf248_66 : fetch 248 66 = some (.aload_n 0, 1) := by decide +kernel
theorem zf248_67 : fetch 248 67 = some (.getfield 297, 3) := by decide +kernel
theorem zf248_70 : fetch 248 70 = some (.invokevirtual 414, 3) := by decide +kernel
theorem zf248_73 : fetch 248 73 = some (.istore 5, 2) := by decide +kernel
theorem zf248_75 : fetch 248 75 = some (.aload_n 0, 1) := by decide +kernel
theorem zf248_76 : fetch 248 76 = some (.iconst 2, 1) := by decide +kernel
theorem zf248_77 : fetch 248 77 = some (.invokevirtual 414, 3) := by decide +kernel
theorem zf248_80 : fetch 248 80 = some (.istore 6, 2) := by decide +kernel
theorem zf248_82 : fetch 248 82 = some (.aload_n 0, 1) := by decide +kernel
theorem zf248_83 : fetch 248 83 = some (.bipush 20, 2) := by decide +kernel
theorem zf248_85 : fetch 248 85 = some (.invokevirtual 414, 3) := by decide +kernel
theorem zf248_88 : fetch 248 88 = some (.iconst 1, 1) := by decide +kernel
theorem zf248_89 : fetch 248 89 = some (.iadd, 1) := by decide +kernel
theorem zf248_90 : fetch 248 90 = some (.istore 7, 2) := by decide +kernel
theorem zf248_92 : fetch 248 92 = some (.aload_n 0, 1) := by decide +kernel
theorem zf248_93 : fetch 248 93 = some (.aload_n 0, 1) := by decide +kernel
theorem zf248_94 : fetch 248 94 = some (.getfield 61, 3) := by decide +kernel
theorem zf248_97 : fetch 248 97 = some (.iload 5, 2) := by decide +kernel
theorem zf248_99 : fetch 248 99 = some (.iload 7, 2) := by decide +kernel
theorem zf248_101 : fetch 248 101 = some (.iload 6, 2) := by decide +kernel
theorem zf248_103 : fetch 248 103 = some (.invokevirtual 372, 3) := by decide +kernel
theorem zf248_106 : fetch 248 106 = some (.ifCond .eq 30, 3) := by decide +kernel
theorem zf248_136 : fetch 248 136 = some (.iconst (-1), 1) := by decide +kernel
theorem zf248_137 : fetch 248 137 = some (.istore 8, 2) := by decide +kernel
theorem zf248_139 : fetch 248 139 = some (.aload_n 0, 1) := by decide +kernel
theorem zf248_140 : fetch 248 140 = some (.aload_n 0, 1) := by decide +kernel
theorem zf248_141 : fetch 248 141 = some (.getfield 61, 3) := by decide +kernel
theorem zf248_144 : fetch 248 144 = some (.invokevirtual 402, 3) := by decide +kernel
theorem zf248_147 : fetch 248 147 = some (.iinc 4 1, 3) := by decide +kernel
theorem zf248_150 : fetch 248 150 = some (.goto (-121), 3) := by decide +kernel
theorem zf248_109 : fetch 248 109 = some (.aload_n 0, 1) := by decide +kernel
theorem zf248_110 : fetch 248 110 = some (.aload_n 0, 1) := by decide +kernel
theorem zf248_111 : fetch 248 111 = some (.getfield 61, 3) := by decide +kernel
theorem zf248_114 : fetch 248 114 = some (.iload 5, 2) := by decide +kernel
theorem zf248_116 : fetch 248 116 = some (.iload 7, 2) := by decide +kernel
theorem zf248_118 : fetch 248 118 = some (.iload 6, 2) := by decide +kernel
theorem zf248_120 : fetch 248 120 = some (.aload_n 0, 1) := by decide +kernel
theorem zf248_121 : fetch 248 121 = some (.aload_n 0, 1) := by decide +kernel
theorem zf248_122 : fetch 248 122 = some (.getfield 61, 3) := by decide +kernel
theorem zf248_125 : fetch 248 125 = some (.iload 5, 2) := by decide +kernel
theorem zf248_127 : fetch 248 127 = some (.invokevirtual 417, 3) := by decide +kernel
theorem zf248_130 : fetch 248 130 = some (.invokevirtual 381, 3) := by decide +kernel
theorem zf248_133 : fetch 248 133 = some (.goto 4, 3) := by decide +kernel
theorem zf256_12 : fetch 256 12 = some (.iload_n 3, 1) := by decide +kernel
theorem zf256_13 : fetch 256 13 = some (.iload_n 2, 1) := by decide +kernel
theorem zf256_14 : fetch 256 14 = some (.if_icmp .ge 15, 3) := by decide +kernel
theorem zf256_29 : fetch 256 29 = some (.return_, 1) := by decide +kernel
theorem zf256_17 : fetch 256 17 = some (.aload_n 1, 1) := by decide +kernel
theorem zf256_18 : fetch 256 18 = some (.iload_n 3, 1) := by decide +kernel
theorem zf256_19 : fetch 256 19 = some (.aload_n 0, 1) := by decide +kernel
theorem zf256_20 : fetch 256 20 = some (.iload_n 3, 1) := by decide +kernel
theorem zf256_21 : fetch 256 21 = some (.iaload, 1) := by decide +kernel
theorem zf256_22 : fetch 256 22 = some (.iastore, 1) := by decide +kernel
theorem zf256_23 : fetch 256 23 = some (.iinc 3 1, 3) := by decide +kernel
theorem zf256_26 : fetch 256 26 = some (.goto (-14), 3) := by decide +kernel
theorem zf255_122 : fetch 255 122 = some (.iload_n 2, 1) := by decide +kernel
theorem zf255_123 : fetch 255 123 = some (.iconst 1, 1) := by decide +kernel
theorem zf255_124 : fetch 255 124 = some (.if_icmp .ne 19, 3) := by decide +kernel
theorem zf255_143 : fetch 255 143 = some (.iload_n 3, 1) := by decide +kernel
theorem zf255_144 : fetch 255 144 = some (.aload_n 0, 1) := by decide +kernel
theorem zf255_145 : fetch 255 145 = some (.getfield 58, 3) := by decide +kernel
theorem zf255_148 : fetch 255 148 = some (.iload_n 1, 1) := by decide +kernel
theorem zf255_149 : fetch 255 149 = some (.iaload, 1) := by decide +kernel
theorem zf255_150 : fetch 255 150 = some (.if_icmp .ne 7, 3) := by decide +kernel
theorem zf255_157 : fetch 255 157 = some (.iload_n 3, 1) := by decide +kernel
theorem zf255_158 : fetch 255 158 = some (.ireturn, 1) := by decide +kernel
theorem zf255_153 : fetch 255 153 = some (.iconst (-1), 1) := by decide +kernel
theorem zf255_154 : fetch 255 154 = some (.goto 4, 3) := by decide +kernel
theorem zf255_127 : fetch 255 127 = some (.aload_n 0, 1) := by decide +kernel
theorem zf255_128 : fetch 255 128 = some (.getfield 61, 3) := by decide +kernel
theorem zf255_131 : fetch 255 131 = some (.bipush 31, 2) := by decide +kernel
theorem zf255_133 : fetch 255 133 = some (.iaload, 1) := by decide +kernel
theorem zf255_134 : fetch 255 134 = some (.aload_n 0, 1) := by decide +kernel
theorem zf255_135 : fetch 255 135 = some (.getfield 64, 3) := by decide +kernel
theorem zf255_138 : fetch 255 138 = some (.bipush 31, 2) := by decide +kernel
theorem zf255_140 : fetch 255 140 = some (.iaload, 1) := by decide +kernel
theorem zf255_141 : fetch 255 141 = some (.isub, 1) := by decide +kernel
theorem zf255_142 : fetch 255 142 = some (.ireturn, 1) := by decide +kernel
theorem zf257_0 : fetch 257 0 = some (.aload_n 0, 1) := by decide +kernel
theorem zf257_1 : fetch 257 1 = some (.getfield 55, 3) := by decide +kernel
theorem zf257_4 : fetch 257 4 = some (.iload_n 2, 1) := by decide +kernel
theorem zf257_5 : fetch 257 5 = some (.iconst 1, 1) := by decide +kernel
theorem zf257_6 : fetch 257 6 = some (.iadd, 1) := by decide +kernel
theorem zf257_7 : fetch 257 7 = some (.iaload, 1) := by decide +kernel
theorem zf257_8 : fetch 257 8 = some (.istore_n 3, 1) := by decide +kernel
theorem zf257_9 : fetch 257 9 = some (.aload_n 0, 1) := by decide +kernel
theorem zf257_10 : fetch 257 10 = some (.getfield 55, 3) := by decide +kernel
theorem zf257_13 : fetch 257 13 = some (.iload_n 2, 1) := by decide +kernel
theorem zf257_14 : fetch 257 14 = some (.iconst 2, 1) := by decide +kernel
theorem zf257_15 : fetch 257 15 = some (.iadd, 1) := by decide +kernel
theorem zf257_16 : fetch 257 16 = some (.iaload, 1) := by decide +kernel
theorem zf257_17 : fetch 257 17 = some (.istore 4, 2) := by decide +kernel
theorem zf257_19 : fetch 257 19 = some (.aload_n 0, 1) := by decide +kernel
theorem zf257_20 : fetch 257 20 = some (.getfield 55, 3) := by decide +kernel
theorem zf257_23 : fetch 257 23 = some (.iload_n 2, 1) := by decide +kernel
theorem zf257_24 : fetch 257 24 = some (.iaload, 1) := by decide +kernel
theorem zf257_25 : fetch 257 25 = some (.tableswitch 62 0 2 #[27, 44, 53], 27) := by decide +kernel
theorem zf257_52 : fetch 257 52 = some (.aload_n 0, 1) := by decide +kernel
theorem zf257_53 : fetch 257 53 = some (.aload_n 1, 1) := by decide +kernel
theorem zf257_54 : fetch 257 54 = some (.iload_n 3, 1) := by decide +kernel
theorem zf257_55 : fetch 257 55 = some (.aload_n 0, 1) := by decide +kernel
theorem zf257_56 : fetch 257 56 = some (.getfield 55, 3) := by decide +kernel
theorem zf257_59 : fetch 257 59 = some (.iload_n 2, 1) := by decide +kernel
theorem zf257_60 : fetch 257 60 = some (.iconst 3, 1) := by decide +kernel
theorem zf257_61 : fetch 257 61 = some (.iadd, 1) := by decide +kernel
theorem zf257_62 : fetch 257 62 = some (.iaload, 1) := by decide +kernel
theorem zf257_63 : fetch 257 63 = some (.iload 4, 2) := by decide +kernel
theorem zf257_65 : fetch 257 65 = some (.invokevirtual 372, 3) := by decide +kernel
theorem zf257_68 : fetch 257 68 = some (.ireturn, 1) := by decide +kernel
theorem zf257_69 : fetch 257 69 = some (.aload_n 0, 1) := by decide +kernel
theorem zf257_70 : fetch 257 70 = some (.aload_n 1, 1) := by decide +kernel
theorem zf257_71 : fetch 257 71 = some (.iload_n 3, 1) := by decide +kernel
theorem zf257_72 : fetch 257 72 = some (.bipush 9, 2) := by decide +kernel
theorem zf257_74 : fetch 257 74 = some (.invokevirtual 399, 3) := by decide +kernel
theorem zf257_77 : fetch 257 77 = some (.ireturn, 1) := by decide +kernel
theorem zf257_78 : fetch 257 78 = some (.aload_n 0, 1) := by decide +kernel
theorem zf257_79 : fetch 257 79 = some (.aload_n 1, 1) := by decide +kernel
theorem zf257_80 : fetch 257 80 = some (.iload_n 3, 1) := by decide +kernel
theorem zf257_81 : fetch 257 81 = some (.iload 4, 2) := by decide +kernel
theorem zf257_83 : fetch 257 83 = some (.invokevirtual 392, 3) := by decide +kernel
theorem zf257_86 : fetch 257 86 = some (.ireturn, 1) := by decide +kernel
theorem zf257_87 : fetch 257 87 = some (.aload_n 0, 1) := by decide +kernel
theorem zf257_88 : fetch 257 88 = some (.aload_n 1, 1) := by decide +kernel
theorem zf257_89 : fetch 257 89 = some (.iload_n 3, 1) := by decide +kernel
theorem zf257_90 : fetch 257 90 = some (.iload 4, 2) := by decide +kernel
theorem zf257_92 : fetch 257 92 = some (.invokevirtual 386, 3) := by decide +kernel
theorem zf257_95 : fetch 257 95 = some (.ireturn, 1) := by decide +kernel
theorem zf255_89 : fetch 255 89 = some (.iload 5, 2) := by decide +kernel
theorem zf255_91 : fetch 255 91 = some (.aload_n 0, 1) := by decide +kernel
theorem zf255_92 : fetch 255 92 = some (.iload 4, 2) := by decide +kernel
theorem zf255_94 : fetch 255 94 = some (.invokevirtual 432, 3) := by decide +kernel
theorem zf255_97 : fetch 255 97 = some (.if_icmp .ge 19, 3) := by decide +kernel
theorem zf255_116 : fetch 255 116 = some (.iinc 3 1, 3) := by decide +kernel
theorem zf255_119 : fetch 255 119 = some (.goto (-72), 3) := by decide +kernel
theorem zf255_100 : fetch 255 100 = some (.aload_n 0, 1) := by decide +kernel
theorem zf255_101 : fetch 255 101 = some (.aload_n 0, 1) := by decide +kernel
theorem zf255_102 : fetch 255 102 = some (.getfield 64, 3) := by decide +kernel
theorem zf255_105 : fetch 255 105 = some (.iload 4, 2) := by decide +kernel
theorem zf255_107 : fetch 255 107 = some (.invokevirtual 435, 3) := by decide +kernel
theorem zf255_110 : fetch 255 110 = some (.iinc 5 1, 3) := by decide +kernel
theorem zf255_113 : fetch 255 113 = some (.goto (-24), 3) := by decide +kernel
theorem zf260_65 : fetch 260 65 = some (.iload 4, 2) := by decide +kernel
theorem zf260_67 : fetch 260 67 = some (.aload_n 0, 1) := by decide +kernel
theorem zf260_68 : fetch 260 68 = some (.iload_n 3, 1) := by decide +kernel
theorem zf260_69 : fetch 260 69 = some (.invokevirtual 432, 3) := by decide +kernel
theorem zf260_72 : fetch 260 72 = some (.if_icmp .ge 22, 3) := by decide +kernel
theorem zf260_94 : fetch 260 94 = some (.iinc 2 1, 3) := by decide +kernel
theorem zf260_97 : fetch 260 97 = some (.goto (-73), 3) := by decide +kernel
theorem zf260_75 : fetch 260 75 = some (.aload_n 0, 1) := by decide +kernel
theorem zf260_76 : fetch 260 76 = some (.invokevirtual 378, 3) := by decide +kernel
theorem zf260_79 : fetch 260 79 = some (.aload_n 0, 1) := by decide +kernel
theorem zf260_80 : fetch 260 80 = some (.aload_n 0, 1) := by decide +kernel
theorem zf260_81 : fetch 260 81 = some (.getfield 61, 3) := by decide +kernel
theorem zf260_84 : fetch 260 84 = some (.iload_n 3, 1) := by decide +kernel
theorem zf260_85 : fetch 260 85 = some (.invokevirtual 435, 3) := by decide +kernel
theorem zf260_88 : fetch 260 88 = some (.iinc 4 1, 3) := by decide +kernel
theorem zf260_91 : fetch 260 91 = some (.goto (-26), 3) := by decide +kernel
theorem zf232_0 : fetch 232 0 = some (.aload_n 0, 1) := by decide +kernel
theorem zf232_1 : fetch 232 1 = some (.iload_n 1, 1) := by decide +kernel
theorem zf232_2 : fetch 232 2 = some (.iload_n 2, 1) := by decide +kernel
theorem zf232_3 : fetch 232 3 = some (.iload_n 3, 1) := by decide +kernel
theorem zf232_4 : fetch 232 4 = some (.iload 6, 2) := by decide +kernel
theorem zf232_6 : fetch 232 6 = some (.iload 4, 2) := by decide +kernel
theorem zf232_8 : fetch 232 8 = some (.if_icmp .ne 8, 3) := by decide +kernel
theorem zf232_16 : fetch 232 16 = some (.iload 5, 2) := by decide +kernel
theorem zf232_18 : fetch 232 18 = some (.ineg, 1) := by decide +kernel
theorem zf232_19 : fetch 232 19 = some (.iload 7, 2) := by decide +kernel
theorem zf232_21 : fetch 232 21 = some (.invokevirtual 322, 3) := by decide +kernel
theorem zf232_24 : fetch 232 24 = some (.istore 8, 2) := by decide +kernel
theorem zf232_26 : fetch 232 26 = some (.aload_n 0, 1) := by decide +kernel
theorem zf232_27 : fetch 232 27 = some (.iload_n 2, 1) := by decide +kernel
theorem zf232_28 : fetch 232 28 = some (.invokevirtual 326, 3) := by decide +kernel
theorem zf232_31 : fetch 232 31 = some (.iload 4, 2) := by decide +kernel
theorem zf232_33 : fetch 232 33 = some (.ifCond .ne 8, 3) := by decide +kernel
theorem zf232_41 : fetch 232 41 = some (.iload 8, 2) := by decide +kernel
theorem zf232_43 : fetch 232 43 = some (.ineg, 1) := by decide +kernel
theorem zf232_44 : fetch 232 44 = some (.iadd, 1) := by decide +kernel
theorem zf232_45 : fetch 232 45 = some (.ireturn, 1) := by decide +kernel
theorem zf232_36 : fetch 232 36 = some (.iload 8, 2) := by decide +kernel
theorem zf232_38 : fetch 232 38 = some (.goto 6, 3) := by decide +kernel
theorem zf232_11 : fetch 232 11 = some (.iload 5, 2) := by decide +kernel
theorem zf232_13 : fetch 232 13 = some (.goto 6, 3) := by decide +kernel
theorem zf236_0 : fetch 236 0 = some (.iconst 0, 1) := by decide +kernel
theorem zf236_1 : fetch 236 1 = some (.istore_n 2, 1) := by decide +kernel
theorem zf236_2 : fetch 236 2 = some (.iconst 1, 1) := by decide +kernel
theorem zf236_3 : fetch 236 3 = some (.istore_n 3, 1) := by decide +kernel
theorem zf234_0 : fetch 234 0 = some (.aload_n 0, 1) := by decide +kernel
theorem zf234_1 : fetch 234 1 = some (.getfield 43, 3) := by decide +kernel
theorem zf234_4 : fetch 234 4 = some (.iconst 3, 1) := by decide +kernel
theorem zf234_5 : fetch 234 5 = some (.iload_n 1, 1) := by decide +kernel
theorem zf234_6 : fetch 234 6 = some (.imul, 1) := by decide +kernel
theorem zf234_7 : fetch 234 7 = some (.iaload, 1) := by decide +kernel
theorem zf234_8 : fetch 234 8 = some (.ireturn, 1) := by decide +kernel
theorem zf264_2 : fetch 264 2 = some (.iload_n 2, 1) := by decide +kernel
theorem zf264_3 : fetch 264 3 = some (.bipush 64, 2) := by decide +kernel
theorem zf264_5 : fetch 264 5 = some (.if_icmp .ge 21, 3) := by decide +kernel
theorem zf264_26 : fetch 264 26 = some (.iconst 0, 1) := by decide +kernel
theorem zf264_27 : fetch 264 27 = some (.istore_n 2, 1) := by decide +kernel
theorem zf264_8 : fetch 264 8 = some (.aload_n 0, 1) := by decide +kernel
theorem zf264_9 : fetch 264 9 = some (.getfield 74, 3) := by decide +kernel
theorem zf264_12 : fetch 264 12 = some (.bipush 64, 2) := by decide +kernel
theorem zf264_14 : fetch 264 14 = some (.iload_n 1, 1) := by decide +kernel
theorem zf264_15 : fetch 264 15 = some (.imul, 1) := by decide +kernel
theorem zf264_16 : fetch 264 16 = some (.iload_n 2, 1) := by decide +kernel
theorem zf264_17 : fetch 264 17 = some (.iadd, 1) := by decide +kernel
theorem zf264_18 : fetch 264 18 = some (.iconst 0, 1) := by decide +kernel
theorem zf264_19 : fetch 264 19 = some (.iastore, 1) := by decide +kernel
theorem zf264_20 : fetch 264 20 = some (.iinc 2 1, 3) := by decide +kernel
theorem zf264_23 : fetch 264 23 = some (.goto (-21), 3) := by decide +kernel
theorem zf268_0 : fetch 268 0 = some (.aload_n 0, 1) := by decide +kernel
theorem zf268_1 : fetch 268 1 = some (.getfield 450, 3) := by decide +kernel
theorem zf268_4 : fetch 268 4 = some (.iconst (-1), 1) := by decide +kernel
theorem zf268_5 : fetch 268 5 = some (.if_icmp .eq 31, 3) := by decide +kernel
theorem zf268_8 : fetch 268 8 = some (.iload 5, 2) := by decide +kernel
theorem zf268_10 : fetch 268 10 = some (.aload_n 0, 1) := by decide +kernel
theorem zf268_11 : fetch 268 11 = some (.getfield 450, 3) := by decide +kernel
theorem zf268_14 : fetch 268 14 = some (.if_icmp .gt 21, 3) := by decide +kernel
theorem zf268_35 : fetch 268 35 = some (.return_, 1) := by decide +kernel
theorem zf268_17 : fetch 268 17 = some (.iload 5, 2) := by decide +kernel
theorem zf268_19 : fetch 268 19 = some (.aload_n 0, 1) := by decide +kernel
theorem zf268_20 : fetch 268 20 = some (.getfield 450, 3) := by decide +kernel
theorem zf268_23 : fetch 268 23 = some (.if_icmp .ne 13, 3) := by decide +kernel
theorem zf268_26 : fetch 268 26 = some (.iload 6, 2) := by decide +kernel
theorem zf268_28 : fetch 268 28 = some (.aload_n 0, 1) := by decide +kernel
theorem zf268_29 : fetch 268 29 = some (.getfield 453, 3) := by decide +kernel
theorem zf268_32 : fetch 268 32 = some (.if_icmp .le 4, 3) := by decide +kernel
theorem zf270_20 : fetch 270 20 = some (.iload 6, 2) := by decide +kernel
theorem zf270_22 : fetch 270 22 = some (.aload_n 0, 1) := by decide +kernel
theorem zf270_23 : fetch 270 23 = some (.getfield 450, 3) := by decide +kernel
theorem zf270_26 : fetch 270 26 = some (.if_icmp .ge 27, 3) := by decide +kernel
theorem zf270_53 : fetch 270 53 = some (.lload 4, 2) := by decide +kernel
theorem zf270_55 : fetch 270 55 = some (.l2i, 1) := by decide +kernel
theorem zf270_56 : fetch 270 56 = some (.ireturn, 1) := by decide +kernel
theorem zf270_29 : fetch 270 29 = some (.lload 4, 2) := by decide +kernel
theorem zf270_31 : fetch 270 31 = some (.aload_n 0, 1) := by decide +kernel
theorem zf270_32 : fetch 270 32 = some (.iload_n 1, 1) := by decide +kernel
theorem zf270_33 : fetch 270 33 = some (.iconst 1, 1) := by decide +kernel
theorem zf270_34 : fetch 270 34 = some (.invokevirtual 315, 3) := by decide +kernel
theorem zf270_37 : fetch 270 37 = some (.iconst 1, 1) := by decide +kernel
theorem zf270_38 : fetch 270 38 = some (.iadd, 1) := by decide +kernel
theorem zf270_39 : fetch 270 39 = some (.i2l, 1) := by decide +kernel
theorem zf270_40 : fetch 270 40 = some (.lmul, 1) := by decide +kernel
theorem zf270_41 : fetch 270 41 = some (.ldc2_w 469, 3) := by decide +kernel
theorem zf270_44 : fetch 270 44 = some (.ldiv, 1) := by decide +kernel
theorem zf270_45 : fetch 270 45 = some (.lstore 4, 2) := by decide +kernel
theorem zf270_47 : fetch 270 47 = some (.iinc 6 1, 3) := by decide +kernel
theorem zf270_50 : fetch 270 50 = some (.goto (-30), 3) := by decide +kernel
theorem zf273_2 : fetch 273 2 = some (.iload_n 1, 1) := by decide +kernel
theorem zf273_3 : fetch 273 3 = some (.aload_n 0, 1) := by decide +kernel
theorem zf273_4 : fetch 273 4 = some (.getfield 297, 3) := by decide +kernel
theorem zf273_7 : fetch 273 7 = some (.if_icmp .ge 14, 3) := by decide +kernel
theorem zf273_21 : fetch 273 21 = some (.return_, 1) := by decide +kernel
theorem zf273_10 : fetch 273 10 = some (.aload_n 0, 1) := by decide +kernel
theorem zf273_11 : fetch 273 11 = some (.iload_n 1, 1) := by decide +kernel
theorem zf273_12 : fetch 273 12 = some (.invokevirtual 443, 3) := by decide +kernel
theorem zf273_15 : fetch 273 15 = some (.iinc 1 1, 3) := by decide +kernel
theorem zf273_18 : fetch 273 18 = some (.goto (-16), 3) := by decide +kernel
theorem zf274_4 : fetch 274 4 = some (.iload_n 3, 1) := by decide +kernel
theorem zf274_5 : fetch 274 5 = some (.aload_n 0, 1) := by decide +kernel
theorem zf274_6 : fetch 274 6 = some (.getfield 294, 3) := by decide +kernel
theorem zf274_9 : fetch 274 9 = some (.if_icmp .ge 35, 3) := by decide +kernel
theorem zf274_44 : fetch 274 44 = some (.iload_n 2, 1) := by decide +kernel
theorem zf274_45 : fetch 274 45 = some (.ireturn, 1) := by decide +kernel
theorem zf274_12 : fetch 274 12 = some (.iload_n 2, 1) := by decide +kernel
theorem zf274_13 : fetch 274 13 = some (.aload_n 0, 1) := by decide +kernel
theorem zf274_14 : fetch 274 14 = some (.getfield 61, 3) := by decide +kernel
theorem zf274_17 : fetch 274 17 = some (.bipush 8, 2) := by decide +kernel
theorem zf274_19 : fetch 274 19 = some (.iload_n 3, 1) := by decide +kernel
theorem zf274_20 : fetch 274 20 = some (.iadd, 1) := by decide +kernel
theorem zf274_21 : fetch 274 21 = some (.iaload, 1) := by decide +kernel
theorem zf274_22 : fetch 274 22 = some (.iload_n 1, 1) := by decide +kernel
theorem zf274_23 : fetch 274 23 = some (.invokestatic 229, 3) := by decide +kernel
theorem zf274_26 : fetch 274 26 = some (.ifCond .eq 9, 3) := by decide +kernel
theorem zf274_35 : fetch 274 35 = some (.iconst 0, 1) := by decide +kernel
theorem zf274_36 : fetch 274 36 = some (.ior, 1) := by decide +kernel
theorem zf274_37 : fetch 274 37 = some (.istore_n 2, 1) := by decide +kernel
theorem zf274_38 : fetch 274 38 = some (.iinc 3 1, 3) := by decide +kernel
theorem zf274_41 : fetch 274 41 = some (.goto (-37), 3) := by decide +kernel
theorem zf274_29 : fetch 274 29 = some (.iconst 1, 1) := by decide +kernel
theorem zf274_30 : fetch 274 30 = some (.iload_n 3, 1) := by decide +kernel
theorem zf274_31 : fetch 274 31 = some (.ishl, 1) := by decide +kernel
theorem zf274_32 : fetch 274 32 = some (.goto 4, 3) := by decide +kernel
theorem zf272_97 : fetch 272 97 = some (.iload 5, 2) := by decide +kernel
theorem zf272_99 : fetch 272 99 = some (.iconst 4, 1) := by decide +kernel
theorem zf272_100 : fetch 272 100 = some (.if_icmp .ge 93, 3) := by decide +kernel
theorem zf272_193 : fetch 272 193 = some (.iconst (-1), 1) := by decide +kernel
theorem zf272_194 : fetch 272 194 = some (.ireturn, 1) := by decide +kernel
theorem zf272_103 : fetch 272 103 = some (.iconst 0, 1) := by decide +kernel
theorem zf272_104 : fetch 272 104 = some (.istore 6, 2) := by decide +kernel
theorem zf279_0 : fetch 279 0 = some (.iload_n 1, 1) := by decide +kernel
theorem zf279_1 : fetch 279 1 = some (.bipush 10, 2) := by decide +kernel
theorem zf279_3 : fetch 279 3 = some (.if_icmp .ne 5, 3) := by decide +kernel
theorem zf279_8 : fetch 279 8 = some (.iconst 0, 1) := by decide +kernel
theorem zf279_9 : fetch 279 9 = some (.istore_n 2, 1) := by decide +kernel
theorem zf279_6 : fetch 279 6 = some (.iconst 0, 1) := by decide +kernel
theorem zf279_7 : fetch 279 7 = some (.ireturn, 1) := by decide +kernel
theorem zf280_76 : fetch 280 76 = some (.iload 6, 2) := by decide +kernel
theorem zf280_78 : fetch 280 78 = some (.iconst 2, 1) := by decide +kernel
theorem zf280_79 : fetch 280 79 = some (.if_icmp .ge 170, 3) := by decide +kernel
theorem zf280_249 : fetch 280 249 = some (.iload 4, 2) := by decide +kernel
theorem zf280_251 : fetch 280 251 = some (.ireturn, 1) := by decide +kernel
theorem zf280_82 : fetch 280 82 = some (.iconst 1, 1) := by decide +kernel
theorem zf280_83 : fetch 280 83 = some (.istore 7, 2) := by decide +kernel
theorem zf282_7 : fetch 282 7 = some (.iload 4, 2) := by decide +kernel
theorem zf282_9 : fetch 282 9 = some (.aload_n 0, 1) := by decide +kernel
theorem zf282_10 : fetch 282 10 = some (.getfield 294, 3) := by decide +kernel
theorem zf282_13 : fetch 282 13 = some (.if_icmp .ge 78, 3) := by decide +kernel
theorem zf282_91 : fetch 282 91 = some (.iload_n 3, 1) := by decide +kernel
theorem zf282_92 : fetch 282 92 = some (.ireturn, 1) := by decide +kernel
theorem zf282_16 : fetch 282 16 = some (.iconst 0, 1) := by decide +kernel
theorem zf282_17 : fetch 282 17 = some (.istore 5, 2) := by decide +kernel
theorem zf287_13 : fetch 287 13 = some (.istore 5, 2) := by decide +kernel
theorem zf287_15 : fetch 287 15 = some (.iload_n 3, 1) := by decide +kernel
theorem zf287_16 : fetch 287 16 = some (.iconst 1, 1) := by decide +kernel
theorem zf287_17 : fetch 287 17 = some (.if_icmp .ne 20, 3) := by decide +kernel
theorem zf287_37 : fetch 287 37 = some (.iload_n 3, 1) := by decide +kernel
theorem zf287_38 : fetch 287 38 = some (.iload 4, 2) := by decide +kernel
theorem zf287_40 : fetch 287 40 = some (.iadd, 1) := by decide +kernel
theorem zf287_41 : fetch 287 41 = some (.iconst 2, 1) := by decide +kernel
theorem zf287_42 : fetch 287 42 = some (.if_icmp .ne 10, 3) := by decide +kernel
theorem zf287_52 : fetch 287 52 = some (.iload 5, 2) := by decide +kernel
theorem zf287_54 : fetch 287 54 = some (.ireturn, 1) := by decide +kernel
theorem zf287_45 : fetch 287 45 = some (.iload 5, 2) := by decide +kernel
theorem zf287_47 : fetch 287 47 = some (.iconst 2, 1) := by decide +kernel
theorem zf287_48 : fetch 287 48 = some (.isub, 1) := by decide +kernel
theorem zf287_49 : fetch 287 49 = some (.goto 5, 3) := by decide +kernel
theorem zf287_20 : fetch 287 20 = some (.iload 5, 2) := by decide +kernel
theorem zf287_22 : fetch 287 22 = some (.iload_n 2, 1) := by decide +kernel
theorem zf287_23 : fetch 287 23 = some (.iconst 2, 1) := by decide +kernel
theorem zf287_24 : fetch 287 24 = some (.idiv, 1) := by decide +kernel
theorem zf287_25 : fetch 287 25 = some (.aload_n 0, 1) := by decide +kernel
theorem zf287_26 : fetch 287 26 = some (.iload_n 1, 1) := by decide +kernel
theorem zf287_27 : fetch 287 27 = some (.iconst 0, 1) := by decide +kernel
theorem zf287_28 : fetch 287 28 = some (.invokevirtual 315, 3) := by decide +kernel
theorem zf287_31 : fetch 287 31 = some (.iconst 3, 1) := by decide +kernel
theorem zf287_32 : fetch 287 32 = some (.idiv, 1) := by decide +kernel
theorem zf287_33 : fetch 287 33 = some (.iadd, 1) := by decide +kernel
theorem zf287_34 : fetch 287 34 = some (.isub, 1) := by decide +kernel
theorem zf287_35 : fetch 287 35 = some (.istore 5, 2) := by decide +kernel
theorem zf291_5 : fetch 291 5 = some (.iload 4, 2) := by decide +kernel
theorem zf291_7 : fetch 291 7 = some (.aload_n 0, 1) := by decide +kernel
theorem zf291_8 : fetch 291 8 = some (.getfield 294, 3) := by decide +kernel
theorem zf291_11 : fetch 291 11 = some (.if_icmp .ge 18, 3) := by decide +kernel
theorem zf291_29 : fetch 291 29 = some (.ldc2_w 143, 3) := by decide +kernel
theorem zf291_32 : fetch 291 32 = some (.aload_n 0, 1) := by decide +kernel
theorem zf291_33 : fetch 291 33 = some (.iload_n 1, 1) := by decide +kernel
theorem zf291_34 : fetch 291 34 = some (.invokevirtual 507, 3) := by decide +kernel
theorem zf291_37 : fetch 291 37 = some (.lmul, 1) := by decide +kernel
theorem zf291_38 : fetch 291 38 = some (.lload_n 2, 1) := by decide +kernel
theorem zf291_39 : fetch 291 39 = some (.ldiv, 1) := by decide +kernel
theorem zf291_40 : fetch 291 40 = some (.l2i, 1) := by decide +kernel
theorem zf291_41 : fetch 291 41 = some (.ireturn, 1) := by decide +kernel
theorem zf291_14 : fetch 291 14 = some (.lload_n 2, 1) := by decide +kernel
theorem zf291_15 : fetch 291 15 = some (.aload_n 0, 1) := by decide +kernel
theorem zf291_16 : fetch 291 16 = some (.iload 4, 2) := by decide +kernel
theorem zf291_18 : fetch 291 18 = some (.invokevirtual 507, 3) := by decide +kernel
theorem zf291_21 : fetch 291 21 = some (.ladd, 1) := by decide +kernel
theorem zf291_22 : fetch 291 22 = some (.lstore_n 2, 1) := by decide +kernel
theorem zf291_23 : fetch 291 23 = some (.iinc 4 1, 3) := by decide +kernel
theorem zf291_26 : fetch 291 26 = some (.goto (-21), 3) := by decide +kernel
theorem zf293_38 : fetch 293 38 = some (.iload_n 3, 1) := by decide +kernel
theorem zf293_39 : fetch 293 39 = some (.aload_n 0, 1) := by decide +kernel
theorem zf293_40 : fetch 293 40 = some (.getfield 294, 3) := by decide +kernel
theorem zf293_43 : fetch 293 43 = some (.if_icmp .ge 37, 3) := by decide +kernel
theorem zf293_80 : fetch 293 80 = some (.iload_n 2, 1) := by decide +kernel
theorem zf293_81 : fetch 293 81 = some (.ireturn, 1) := by decide +kernel
theorem zf293_46 : fetch 293 46 = some (.iload_n 1, 1) := by decide +kernel
theorem zf293_47 : fetch 293 47 = some (.iload_n 3, 1) := by decide +kernel
theorem zf293_48 : fetch 293 48 = some (.invokestatic 229, 3) := by decide +kernel
theorem zf293_51 : fetch 293 51 = some (.ifCond .ne 23, 3) := by decide +kernel
theorem zf293_74 : fetch 293 74 = some (.iinc 3 1, 3) := by decide +kernel
theorem zf293_77 : fetch 293 77 = some (.goto (-39), 3) := by decide +kernel
theorem zf293_54 : fetch 293 54 = some (.iload_n 2, 1) := by decide +kernel
theorem zf293_55 : fetch 293 55 = some (.iconst (-1), 1) := by decide +kernel
theorem zf293_56 : fetch 293 56 = some (.if_icmp .eq 16, 3) := by decide +kernel
theorem zf293_72 : fetch 293 72 = some (.iload_n 3, 1) := by decide +kernel
theorem zf293_73 : fetch 293 73 = some (.istore_n 2, 1) := by decide +kernel
theorem zf293_59 : fetch 293 59 = some (.aload_n 0, 1) := by decide +kernel
theorem zf293_60 : fetch 293 60 = some (.iload_n 3, 1) := by decide +kernel
theorem zf293_61 : fetch 293 61 = some (.invokevirtual 511, 3) := by decide +kernel
theorem zf293_64 : fetch 293 64 = some (.aload_n 0, 1) := by decide +kernel
theorem zf293_65 : fetch 293 65 = some (.iload_n 2, 1) := by decide +kernel
theorem zf293_66 : fetch 293 66 = some (.invokevirtual 511, 3) := by decide +kernel
theorem zf293_69 : fetch 293 69 = some (.if_icmp .le 5, 3) := by decide +kernel
theorem zf296_0 : fetch 296 0 = some (.bipush 9, 2) := by decide +kernel
theorem zf296_2 : fetch 296 2 = some (.istore_n 2, 1) := by decide +kernel
theorem zf296_3 : fetch 296 3 = some (.iconst 0, 1) := by decide +kernel
theorem zf296_4 : fetch 296 4 = some (.istore_n 3, 1) := by decide +kernel
theorem zf298_4 : fetch 298 4 = some (.iload_n 3, 1) := by decide +kernel
theorem zf298_5 : fetch 298 5 = some (.aload_n 0, 1) := by decide +kernel
theorem zf298_6 : fetch 298 6 = some (.getfield 294, 3) := by decide +kernel
theorem zf298_9 : fetch 298 9 = some (.if_icmp .ge 43, 3) := by decide +kernel
theorem zf298_52 : fetch 298 52 = some (.iload_n 2, 1) := by decide +kernel
theorem zf298_53 : fetch 298 53 = some (.ireturn, 1) := by decide +kernel
theorem zf298_12 : fetch 298 12 = some (.aload_n 0, 1) := by decide +kernel
theorem zf298_13 : fetch 298 13 = some (.iload_n 3, 1) := by decide +kernel
theorem zf298_14 : fetch 298 14 = some (.invokevirtual 326, 3) := by decide +kernel
theorem zf298_17 : fetch 298 17 = some (.i2l, 1) := by decide +kernel
theorem zf298_18 : fetch 298 18 = some (.iload_n 1, 1) := by decide +kernel
theorem zf298_19 : fetch 298 19 = some (.i2l, 1) := by decide +kernel
theorem zf298_20 : fetch 298 20 = some (.lsub, 1) := by decide +kernel
theorem zf298_21 : fetch 298 21 = some (.invokestatic 521, 3) := by decide +kernel
theorem zf298_24 : fetch 298 24 = some (.aload_n 0, 1) := by decide +kernel
theorem zf298_25 : fetch 298 25 = some (.iload_n 2, 1) := by decide +kernel
theorem zf298_26 : fetch 298 26 = some (.invokevirtual 326, 3) := by decide +kernel
theorem zf298_29 : fetch 298 29 = some (.i2l, 1) := by decide +kernel
theorem zf298_30 : fetch 298 30 = some (.iload_n 1, 1) := by decide +kernel
theorem zf298_31 : fetch 298 31 = some (.i2l, 1) := by decide +kernel
theorem zf298_32 : fetch 298 32 = some (.lsub, 1) := by decide +kernel
theorem zf298_33 : fetch 298 33 = some (.invokestatic 521, 3) := by decide +kernel
theorem zf298_36 : fetch 298 36 = some (.lcmp, 1) := by decide +kernel
theorem zf298_37 : fetch 298 37 = some (.ifCond .ge 7, 3) := by decide +kernel
theorem zf298_44 : fetch 298 44 = some (.iload_n 2, 1) := by decide +kernel
theorem zf298_45 : fetch 298 45 = some (.istore_n 2, 1) := by decide +kernel
theorem zf298_46 : fetch 298 46 = some (.iinc 3 1, 3) := by decide +kernel
theorem zf298_49 : fetch 298 49 = some (.goto (-45), 3) := by decide +kernel
theorem zf298_40 : fetch 298 40 = some (.iload_n 3, 1) := by decide +kernel
theorem zf298_41 : fetch 298 41 = some (.goto 4, 3) := by decide +kernel
theorem zf6_39 : fetch 6 39 = some (.iload_n 1, 1) := by decide +kernel
theorem zf6_40 : fetch 6 40 = some (.sipush 240, 3) := by decide +kernel
theorem zf6_43 : fetch 6 43 = some (.if_icmp .gt 50, 3) := by decide +kernel
theorem zf6_93 : fetch 6 93 = some (.iconst 0, 1) := by decide +kernel
theorem zf6_94 : fetch 6 94 = some (.ireturn, 1) := by decide +kernel
theorem zf6_46 : fetch 6 46 = some (.aload_n 0, 1) := by decide +kernel
theorem zf6_47 : fetch 6 47 = some (.invokevirtual 55, 3) := by decide +kernel
theorem zf6_50 : fetch 6 50 = some (.ifCond .ne 5, 3) := by decide +kernel
theorem zf6_55 : fetch 6 55 = some (.aload_n 0, 1) := by decide +kernel
theorem zf6_56 : fetch 6 56 = some (.getfield 18, 3) := by decide +kernel
theorem zf6_59 : fetch 6 59 = some (.invokevirtual 58, 3) := by decide +kernel
theorem zf6_62 : fetch 6 62 = some (.ifCond .ne 11, 3) := by decide +kernel
theorem zf6_73 : fetch 6 73 = some (.aload_n 0, 1) := by decide +kernel
theorem zf6_74 : fetch 6 74 = some (.getfield 18, 3) := by decide +kernel
theorem zf6_77 : fetch 6 77 = some (.bipush 59, 2) := by decide +kernel
theorem zf6_79 : fetch 6 79 = some (.invokevirtual 65, 3) := by decide +kernel
theorem zf6_82 : fetch 6 82 = some (.ifCond .ne 5, 3) := by decide +kernel
theorem zf6_87 : fetch 6 87 = some (.iinc 1 1, 3) := by decide +kernel
theorem zf6_90 : fetch 6 90 = some (.goto (-51), 3) := by decide +kernel
theorem zf6_85 : fetch 6 85 = some (.iconst 0, 1) := by decide +kernel
theorem zf6_86 : fetch 6 86 = some (.ireturn, 1) := by decide +kernel
theorem zf6_65 : fetch 6 65 = some (.aload_n 0, 1) := by decide +kernel
theorem zf6_66 : fetch 6 66 = some (.getfield 12, 3) := by decide +kernel
theorem zf6_69 : fetch 6 69 = some (.invokevirtual 62, 3) := by decide +kernel
theorem zf6_72 : fetch 6 72 = some (.ireturn, 1) := by decide +kernel
theorem zf6_53 : fetch 6 53 = some (.iconst 0, 1) := by decide +kernel
theorem zf6_54 : fetch 6 54 = some (.ireturn, 1) := by decide +kernel
theorem zf23_0 : fetch 23 0 = some (.aload_n 0, 1) := by decide +kernel
theorem zf23_1 : fetch 23 1 = some (.getfield 17, 3) := by decide +kernel
theorem zf23_4 : fetch 23 4 = some (.bipush 121, 2) := by decide +kernel
theorem zf23_6 : fetch 23 6 = some (.invokevirtual 36, 3) := by decide +kernel
theorem zf23_9 : fetch 23 9 = some (.ifCond .eq 15, 3) := by decide +kernel
theorem zf23_24 : fetch 23 24 = some (.iconst 0, 1) := by decide +kernel
theorem zf23_25 : fetch 23 25 = some (.ireturn, 1) := by decide +kernel
theorem zf23_12 : fetch 23 12 = some (.aload_n 0, 1) := by decide +kernel
theorem zf23_13 : fetch 23 13 = some (.getfield 17, 3) := by decide +kernel
theorem zf23_16 : fetch 23 16 = some (.bipush 58, 2) := by decide +kernel
theorem zf23_18 : fetch 23 18 = some (.invokevirtual 36, 3) := by decide +kernel
theorem zf23_21 : fetch 23 21 = some (.ifCond .ne 5, 3) := by decide +kernel
theorem zf23_26 : fetch 23 26 = some (.aload_n 0, 1) := by decide +kernel
theorem zf23_27 : fetch 23 27 = some (.getfield 17, 3) := by decide +kernel
theorem zf23_30 : fetch 23 30 = some (.invokevirtual 32, 3) := by decide +kernel
theorem zf23_33 : fetch 23 33 = some (.istore_n 1, 1) := by decide +kernel
theorem zf23_34 : fetch 23 34 = some (.iload_n 1, 1) := by decide +kernel
theorem zf23_35 : fetch 23 35 = some (.bipush 33, 2) := by decide +kernel
theorem zf23_37 : fetch 23 37 = some (.if_icmp .eq 13, 3) := by decide +kernel
theorem zf23_50 : fetch 23 50 = some (.iconst 0, 1) := by decide +kernel
theorem zf23_40 : fetch 23 40 = some (.iload_n 1, 1) := by decide +kernel
theorem zf23_41 : fetch 23 41 = some (.bipush 40, 2) := by decide +kernel
theorem zf23_43 : fetch 23 43 = some (.if_icmp .eq 7, 3) := by decide +kernel
theorem zf23_46 : fetch 23 46 = some (.iconst 1, 1) := by decide +kernel
theorem zf23_47 : fetch 23 47 = some (.goto 4, 3) := by decide +kernel
theorem zf8_0 : fetch 8 0 = some (.aload_n 0, 1) := by decide +kernel
theorem zf8_1 : fetch 8 1 = some (.getfield 19, 3) := by decide +kernel
theorem zf8_4 : fetch 8 4 = some (.aload_n 0, 1) := by decide +kernel
theorem zf8_5 : fetch 8 5 = some (.getfield 15, 3) := by decide +kernel
theorem zf8_8 : fetch 8 8 = some (.if_icmp .ge 30, 3) := by decide +kernel
theorem zf8_38 : fetch 8 38 = some (.aload_n 0, 1) := by decide +kernel
theorem zf8_39 : fetch 8 39 = some (.getfield 19, 3) := by decide +kernel
theorem zf8_42 : fetch 8 42 = some (.aload_n 0, 1) := by decide +kernel
theorem zf8_43 : fetch 8 43 = some (.getfield 15, 3) := by decide +kernel
theorem zf8_46 : fetch 8 46 = some (.if_icmp .ge 15, 3) := by decide +kernel
theorem zf8_61 : fetch 8 61 = some (.iconst 0, 1) := by decide +kernel
theorem zf8_62 : fetch 8 62 = some (.ireturn, 1) := by decide +kernel
theorem zf8_49 : fetch 8 49 = some (.aload_n 0, 1) := by decide +kernel
theorem zf8_50 : fetch 8 50 = some (.getfield 11, 3) := by decide +kernel
theorem zf8_53 : fetch 8 53 = some (.aload_n 0, 1) := by decide +kernel
theorem zf8_54 : fetch 8 54 = some (.getfield 19, 3) := by decide +kernel
theorem zf8_57 : fetch 8 57 = some (.baload, 1) := by decide +kernel
theorem zf8_58 : fetch 8 58 = some (.goto 4, 3) := by decide +kernel
theorem zf8_11 : fetch 8 11 = some (.aload_n 0, 1) := by decide +kernel
theorem zf8_12 : fetch 8 12 = some (.getfield 11, 3) := by decide +kernel
theorem zf8_15 : fetch 8 15 = some (.aload_n 0, 1) := by decide +kernel
theorem zf8_16 : fetch 8 16 = some (.getfield 19, 3) := by decide +kernel
theorem zf8_19 : fetch 8 19 = some (.baload, 1) := by decide +kernel
theorem zf8_20 : fetch 8 20 = some (.bipush 32, 2) := by decide +kernel
theorem zf8_22 : fetch 8 22 = some (.if_icmp .ne 16, 3) := by decide +kernel
theorem zf8_25 : fetch 8 25 = some (.aload_n 0, 1) := by decide +kernel
theorem zf8_26 : fetch 8 26 = some (.dup, 1) := by decide +kernel
theorem zf8_27 : fetch 8 27 = some (.getfield 19, 3) := by decide +kernel
theorem zf8_30 : fetch 8 30 = some (.iconst 1, 1) := by decide +kernel
theorem zf8_31 : fetch 8 31 = some (.iadd, 1) := by decide +kernel
theorem zf8_32 : fetch 8 32 = some (.putfield 19, 3) := by decide +kernel
theorem zf8_35 : fetch 8 35 = some (.goto (-35), 3) := by decide +kernel
theorem zf21_0 : fetch 21 0 = some (.aload_n 0, 1) := by decide +kernel
theorem zf21_1 : fetch 21 1 = some (.invokevirtual 22, 3) := by decide +kernel
theorem zf21_4 : fetch 21 4 = some (.iload_n 1, 1) := by decide +kernel
theorem zf21_5 : fetch 21 5 = some (.if_icmp .eq 5, 3) := by decide +kernel
theorem zf21_10 : fetch 21 10 = some (.aload_n 0, 1) := by decide +kernel
theorem zf21_11 : fetch 21 11 = some (.dup, 1) := by decide +kernel
theorem zf21_12 : fetch 21 12 = some (.getfield 19, 3) := by decide +kernel
theorem zf21_15 : fetch 21 15 = some (.iconst 1, 1) := by decide +kernel
theorem zf21_16 : fetch 21 16 = some (.iadd, 1) := by decide +kernel
theorem zf21_17 : fetch 21 17 = some (.putfield 19, 3) := by decide +kernel
theorem zf21_20 : fetch 21 20 = some (.iconst 1, 1) := by decide +kernel
theorem zf21_21 : fetch 21 21 = some (.ireturn, 1) := by decide +kernel
theorem zf21_8 : fetch 21 8 = some (.iconst 0, 1) := by decide +kernel
theorem zf21_9 : fetch 21 9 = some (.ireturn, 1) := by decide +kernel
theorem zf39_0 : fetch 39 0 = some (.aload_n 0, 1) := by decide +kernel
theorem zf39_1 : fetch 39 1 = some (.getfield 23, 3) := by decide +kernel
theorem zf39_4 : fetch 39 4 = some (.bipush 115, 2) := by decide +kernel
theorem zf39_6 : fetch 39 6 = some (.invokevirtual 57, 3) := by decide +kernel
theorem zf39_9 : fetch 39 9 = some (.ifCond .eq 27, 3) := by decide +kernel
theorem zf39_36 : fetch 39 36 = some (.aload_n 0, 1) := by decide +kernel
theorem zf39_37 : fetch 39 37 = some (.getfield 23, 3) := by decide +kernel
theorem zf39_40 : fetch 39 40 = some (.bipush 104, 2) := by decide +kernel
theorem zf39_42 : fetch 39 42 = some (.invokevirtual 57, 3) := by decide +kernel
theorem zf39_45 : fetch 39 45 = some (.ifCond .eq 10, 3) := by decide +kernel
theorem zf39_55 : fetch 39 55 = some (.aload_n 0, 1) := by decide +kernel
theorem zf39_56 : fetch 39 56 = some (.getfield 23, 3) := by decide +kernel
theorem zf39_59 : fetch 39 59 = some (.bipush 119, 2) := by decide +kernel
theorem zf39_61 : fetch 39 61 = some (.invokevirtual 57, 3) := by decide +kernel
theorem zf39_64 : fetch 39 64 = some (.ifCond .eq 11, 3) := by decide +kernel
theorem zf39_75 : fetch 39 75 = some (.aload_n 0, 1) := by decide +kernel
theorem zf39_76 : fetch 39 76 = some (.getfield 23, 3) := by decide +kernel
theorem zf39_79 : fetch 39 79 = some (.bipush 110, 2) := by decide +kernel
theorem zf39_81 : fetch 39 81 = some (.invokevirtual 57, 3) := by decide +kernel
theorem zf39_84 : fetch 39 84 = some (.ifCond .eq 18, 3) := by decide +kernel
theorem zf39_102 : fetch 39 102 = some (.iconst 0, 1) := by decide +kernel
theorem zf39_103 : fetch 39 103 = some (.ireturn, 1) := by decide +kernel
theorem zf39_87 : fetch 39 87 = some (.aload_n 0, 1) := by decide +kernel
theorem zf39_88 : fetch 39 88 = some (.iload_n 1, 1) := by decide +kernel
theorem zf39_89 : fetch 39 89 = some (.iconst 3, 1) := by decide +kernel
theorem zf39_90 : fetch 39 90 = some (.bipush 9, 2) := by decide +kernel
theorem zf39_92 : fetch 39 92 = some (.invokevirtual 61, 3) := by decide +kernel
theorem zf39_95 : fetch 39 95 = some (.ifCond .eq 7, 3) := by decide +kernel
theorem zf39_98 : fetch 39 98 = some (.iconst 1, 1) := by decide +kernel
theorem zf39_99 : fetch 39 99 = some (.goto 4, 3) := by decide +kernel
theorem zf39_67 : fetch 39 67 = some (.aload_n 0, 1) := by decide +kernel
theorem zf39_68 : fetch 39 68 = some (.iload_n 1, 1) := by decide +kernel
theorem zf39_69 : fetch 39 69 = some (.iconst 2, 1) := by decide +kernel
theorem zf39_70 : fetch 39 70 = some (.iconst 1, 1) := by decide +kernel
theorem zf39_71 : fetch 39 71 = some (.invokevirtual 61, 3) := by decide +kernel
theorem zf39_74 : fetch 39 74 = some (.ireturn, 1) := by decide +kernel
theorem zf39_48 : fetch 39 48 = some (.aload_n 0, 1) := by decide +kernel
theorem zf39_49 : fetch 39 49 = some (.iload_n 1, 1) := by decide +kernel
theorem zf39_50 : fetch 39 50 = some (.iconst 1, 1) := by decide +kernel
theorem zf39_51 : fetch 39 51 = some (.invokevirtual 68, 3) := by decide +kernel
theorem zf39_54 : fetch 39 54 = some (.ireturn, 1) := by decide +kernel
theorem zf39_12 : fetch 39 12 = some (.aload_n 0, 1) := by decide +kernel
theorem zf39_13 : fetch 39 13 = some (.iload_n 1, 1) := by decide +kernel
theorem zf39_14 : fetch 39 14 = some (.iconst 0, 1) := by decide +kernel
theorem zf39_15 : fetch 39 15 = some (.iconst 1, 1) := by decide +kernel
theorem zf39_16 : fetch 39 16 = some (.invokevirtual 61, 3) := by decide +kernel
theorem zf39_19 : fetch 39 19 = some (.ifCond .eq 15, 3) := by decide +kernel
theorem zf39_34 : fetch 39 34 = some (.iconst 0, 1) := by decide +kernel
theorem zf39_35 : fetch 39 35 = some (.ireturn, 1) := by decide +kernel
theorem zf39_22 : fetch 39 22 = some (.aload_n 0, 1) := by decide +kernel
theorem zf39_23 : fetch 39 23 = some (.iload_n 1, 1) := by decide +kernel
theorem zf39_24 : fetch 39 24 = some (.invokevirtual 65, 3) := by decide +kernel
theorem zf39_27 : fetch 39 27 = some (.ifCond .eq 7, 3) := by decide +kernel
theorem zf39_30 : fetch 39 30 = some (.iconst 1, 1) := by decide +kernel
theorem zf39_31 : fetch 39 31 = some (.goto 4, 3) := by decide +kernel
theorem zf58_0 : fetch 58 0 = some (.aload_n 0, 1) := by decide +kernel
theorem zf58_1 : fetch 58 1 = some (.getfield 27, 3) := by decide +kernel
theorem zf58_4 : fetch 58 4 = some (.iconst 4, 1) := by decide +kernel
theorem zf58_5 : fetch 58 5 = some (.if_icmp .ge 7, 3) := by decide +kernel
theorem zf58_12 : fetch 58 12 = some (.iconst 0, 1) := by decide +kernel
theorem zf58_13 : fetch 58 13 = some (.ireturn, 1) := by decide +kernel
theorem zf58_8 : fetch 58 8 = some (.iconst 1, 1) := by decide +kernel
theorem zf58_9 : fetch 58 9 = some (.goto 4, 3) := by decide +kernel
theorem zf59_0 : fetch 59 0 = some (.aload_n 0, 1) := by decide +kernel
theorem zf59_1 : fetch 59 1 = some (.invokevirtual 31, 3) := by decide +kernel
theorem zf59_4 : fetch 59 4 = some (.ifCond .ne 5, 3) := by decide +kernel
theorem zf59_9 : fetch 59 9 = some (.aload_n 0, 1) := by decide +kernel
theorem zf59_10 : fetch 59 10 = some (.getfield 20, 3) := by decide +kernel
theorem zf59_13 : fetch 59 13 = some (.iconst 0, 1) := by decide +kernel
theorem zf59_14 : fetch 59 14 = some (.aload_n 0, 1) := by decide +kernel
theorem zf59_15 : fetch 59 15 = some (.getfield 17, 3) := by decide +kernel
theorem zf59_18 : fetch 59 18 = some (.aload_n 0, 1) := by decide +kernel
theorem zf59_19 : fetch 59 19 = some (.getfield 27, 3) := by decide +kernel
theorem zf59_22 : fetch 59 22 = some (.aaload, 1) := by decide +kernel
theorem zf59_23 : fetch 59 23 = some (.iconst 0, 1) := by decide +kernel
theorem zf59_24 : fetch 59 24 = some (.aload_n 0, 1) := by decide +kernel
theorem zf59_25 : fetch 59 25 = some (.getfield 20, 3) := by decide +kernel
theorem zf59_28 : fetch 59 28 = some (.arraylength, 1) := by decide +kernel
theorem zf59_29 : fetch 59 29 = some (.invokestatic 35, 3) := by decide +kernel
theorem zf59_32 : fetch 59 32 = some (.aload_n 0, 1) := by decide +kernel
theorem zf59_33 : fetch 59 33 = some (.getfield 11, 3) := by decide +kernel
theorem zf59_36 : fetch 59 36 = some (.aload_n 0, 1) := by decide +kernel
theorem zf59_37 : fetch 59 37 = some (.getfield 27, 3) := by decide +kernel
theorem zf59_40 : fetch 59 40 = some (.aload_n 0, 1) := by decide +kernel
theorem zf59_41 : fetch 59 41 = some (.getfield 41, 3) := by decide +kernel
theorem zf59_44 : fetch 59 44 = some (.iastore, 1) := by decide +kernel
theorem zf59_45 : fetch 59 45 = some (.aload_n 0, 1) := by decide +kernel
theorem zf59_46 : fetch 59 46 = some (.dup, 1) := by decide +kernel
theorem zf59_47 : fetch 59 47 = some (.getfield 27, 3) := by decide +kernel
theorem zf59_50 : fetch 59 50 = some (.iconst 1, 1) := by decide +kernel
theorem zf59_51 : fetch 59 51 = some (.iadd, 1) := by decide +kernel
theorem zf59_52 : fetch 59 52 = some (.putfield 27, 3) := by decide +kernel
theorem zf59_55 : fetch 59 55 = some (.aload_n 0, 1) := by decide +kernel
theorem zf59_56 : fetch 59 56 = some (.getfield 27, 3) := by decide +kernel
theorem zf59_59 : fetch 59 59 = some (.iconst 1, 1) := by decide +kernel
theorem zf59_60 : fetch 59 60 = some (.isub, 1) := by decide +kernel
theorem zf59_61 : fetch 59 61 = some (.ireturn, 1) := by decide +kernel
theorem zf59_7 : fetch 59 7 = some (.iconst (-1), 1) := by decide +kernel
theorem zf59_8 : fetch 59 8 = some (.ireturn, 1) := by decide +kernel
theorem zf49_0 : fetch 49 0 = some (.aload_n 0, 1) := by decide +kernel
theorem zf49_1 : fetch 49 1 = some (.getfield 11, 3) := by decide +kernel
theorem zf49_4 : fetch 49 4 = some (.iconst 2, 1) := by decide +kernel
theorem zf49_5 : fetch 49 5 = some (.iaload, 1) := by decide +kernel
theorem zf49_6 : fetch 49 6 = some (.ireturn, 1) := by decide +kernel
theorem zf50_0 : fetch 50 0 = some (.aload_n 0, 1) := by decide +kernel
theorem zf50_1 : fetch 50 1 = some (.getfield 11, 3) := by decide +kernel
theorem zf50_4 : fetch 50 4 = some (.iconst 0, 1) := by decide +kernel
theorem zf50_5 : fetch 50 5 = some (.iaload, 1) := by decide +kernel
theorem zf50_6 : fetch 50 6 = some (.ireturn, 1) := by decide +kernel
theorem zf51_0 : fetch 51 0 = some (.aload_n 0, 1) := by decide +kernel
theorem zf51_1 : fetch 51 1 = some (.getfield 11, 3) := by decide +kernel
theorem zf51_4 : fetch 51 4 = some (.iconst 1, 1) := by decide +kernel
theorem zf51_5 : fetch 51 5 = some (.iaload, 1) := by decide +kernel
theorem zf51_6 : fetch 51 6 = some (.ireturn, 1) := by decide +kernel
theorem zf47_40 : fetch 47 40 = some (.iload_n 2, 1) := by decide +kernel
theorem zf47_41 : fetch 47 41 = some (.aload_n 1, 1) := by decide +kernel
theorem zf47_42 : fetch 47 42 = some (.getfield 38, 3) := by decide +kernel
theorem zf47_45 : fetch 47 45 = some (.if_icmp .ge 23, 3) := by decide +kernel
theorem zf47_68 : fetch 47 68 = some (.iconst 0, 1) := by decide +kernel
theorem zf47_69 : fetch 47 69 = some (.istore_n 2, 1) := by decide +kernel
theorem zf47_48 : fetch 47 48 = some (.aload_n 0, 1) := by decide +kernel
theorem zf47_49 : fetch 47 49 = some (.getfield 15, 3) := by decide +kernel
theorem zf47_52 : fetch 47 52 = some (.bipush 21, 2) := by decide +kernel
theorem zf47_54 : fetch 47 54 = some (.iload_n 2, 1) := by decide +kernel
theorem zf47_55 : fetch 47 55 = some (.iadd, 1) := by decide +kernel
theorem zf47_56 : fetch 47 56 = some (.aload_n 1, 1) := by decide +kernel
theorem zf47_57 : fetch 47 57 = some (.iload_n 2, 1) := by decide +kernel
theorem zf47_58 : fetch 47 58 = some (.invokevirtual 42, 3) := by decide +kernel
theorem zf47_61 : fetch 47 61 = some (.iastore, 1) := by decide +kernel
theorem zf47_62 : fetch 47 62 = some (.iinc 2 1, 3) := by decide +kernel
theorem zf47_65 : fetch 47 65 = some (.goto (-25), 3) := by decide +kernel
theorem zf88_53 : fetch 88 53 = some (.aload_n 0, 1) := by decide +kernel
theorem zf88_54 : fetch 88 54 = some (.getfield 15, 3) := by decide +kernel
theorem zf88_57 : fetch 88 57 = some (.bipush 6, 2) := by decide +kernel
theorem zf88_59 : fetch 88 59 = some (.iload_n 1, 1) := by decide +kernel
theorem zf88_60 : fetch 88 60 = some (.iadd, 1) := by decide +kernel
theorem zf88_61 : fetch 88 61 = some (.iload_n 2, 1) := by decide +kernel
theorem zf88_62 : fetch 88 62 = some (.iastore, 1) := by decide +kernel
theorem zf88_63 : fetch 88 63 = some (.aload_n 0, 1) := by decide +kernel
theorem zf88_64 : fetch 88 64 = some (.getfield 15, 3) := by decide +kernel
theorem zf88_67 : fetch 88 67 = some (.bipush 29, 2) := by decide +kernel
theorem zf88_69 : fetch 88 69 = some (.iload_n 2, 1) := by decide +kernel
theorem zf88_70 : fetch 88 70 = some (.iadd, 1) := by decide +kernel
theorem zf88_71 : fetch 88 71 = some (.dup2, 1) := by decide +kernel
theorem zf88_72 : fetch 88 72 = some (.iaload, 1) := by decide +kernel
theorem zf88_73 : fetch 88 73 = some (.iload_n 3, 1) := by decide +kernel
theorem zf88_74 : fetch 88 74 = some (.ior, 1) := by decide +kernel
theorem zf88_75 : fetch 88 75 = some (.iastore, 1) := by decide +kernel
theorem zf88_76 : fetch 88 76 = some (.return_, 1) := by decide +kernel
theorem zf100_2 : fetch 100 2 = some (.iload_n 2, 1) := by decide +kernel
theorem zf100_3 : fetch 100 3 = some (.iconst 5, 1) := by decide +kernel
theorem zf100_4 : fetch 100 4 = some (.if_icmp .ge 33, 3) := by decide +kernel
theorem zf100_37 : fetch 100 37 = some (.aload_n 0, 1) := by decide +kernel
theorem zf100_38 : fetch 100 38 = some (.getfield 15, 3) := by decide +kernel
theorem zf100_41 : fetch 100 41 = some (.iconst 4, 1) := by decide +kernel
theorem zf100_42 : fetch 100 42 = some (.dup2, 1) := by decide +kernel
theorem zf100_43 : fetch 100 43 = some (.iaload, 1) := by decide +kernel
theorem zf100_44 : fetch 100 44 = some (.iconst 1, 1) := by decide +kernel
theorem zf100_45 : fetch 100 45 = some (.iadd, 1) := by decide +kernel
theorem zf100_46 : fetch 100 46 = some (.iastore, 1) := by decide +kernel
theorem zf100_47 : fetch 100 47 = some (.aload_n 0, 1) := by decide +kernel
theorem zf100_48 : fetch 100 48 = some (.getfield 15, 3) := by decide +kernel
theorem zf100_51 : fetch 100 51 = some (.iconst 4, 1) := by decide +kernel
theorem zf100_52 : fetch 100 52 = some (.iaload, 1) := by decide +kernel
theorem zf100_53 : fetch 100 53 = some (.iconst 4, 1) := by decide +kernel
theorem zf100_54 : fetch 100 54 = some (.irem, 1) := by decide +kernel
theorem zf100_55 : fetch 100 55 = some (.ifCond .ne 41, 3) := by decide +kernel
theorem zf100_96 : fetch 100 96 = some (.return_, 1) := by decide +kernel
theorem zf100_58 : fetch 100 58 = some (.iconst 0, 1) := by decide +kernel
theorem zf100_59 : fetch 100 59 = some (.istore_n 2, 1) := by decide +kernel
theorem zf100_7 : fetch 100 7 = some (.aload_n 0, 1) := by decide +kernel
theorem zf100_8 : fetch 100 8 = some (.getfield 15, 3) := by decide +kernel
theorem zf100_11 : fetch 100 11 = some (.bipush 16, 2) := by decide +kernel
theorem zf100_13 : fetch 100 13 = some (.iload_n 2, 1) := by decide +kernel
theorem zf100_14 : fetch 100 14 = some (.iadd, 1) := by decide +kernel
theorem zf100_15 : fetch 100 15 = some (.iconst 0, 1) := by decide +kernel
theorem zf100_16 : fetch 100 16 = some (.aload_n 0, 1) := by decide +kernel
theorem zf100_17 : fetch 100 17 = some (.getfield 15, 3) := by decide +kernel
theorem zf100_20 : fetch 100 20 = some (.bipush 16, 2) := by decide +kernel
theorem zf100_22 : fetch 100 22 = some (.iload_n 2, 1) := by decide +kernel
theorem zf100_23 : fetch 100 23 = some (.iadd, 1) := by decide +kernel
theorem zf100_24 : fetch 100 24 = some (.iaload, 1) := by decide +kernel
theorem zf100_25 : fetch 100 25 = some (.iconst 1, 1) := by decide +kernel
theorem zf100_26 : fetch 100 26 = some (.isub, 1) := by decide +kernel
theorem zf100_27 : fetch 100 27 = some (.invokestatic 58, 3) := by decide +kernel
theorem zf100_30 : fetch 100 30 = some (.iastore, 1) := by decide +kernel
theorem zf100_31 : fetch 100 31 = some (.iinc 2 1, 3) := by decide +kernel
theorem zf100_34 : fetch 100 34 = some (.goto (-32), 3) := by decide +kernel
theorem zf103_0 : fetch 103 0 = some (.lload_n 0, 1) := by decide +kernel
theorem zf103_1 : fetch 103 1 = some (.ldc2_w 304, 3) := by decide +kernel
theorem zf103_4 : fetch 103 4 = some (.lmul, 1) := by decide +kernel
theorem zf103_5 : fetch 103 5 = some (.ldc2_w 306, 3) := by decide +kernel
theorem zf103_8 : fetch 103 8 = some (.ladd, 1) := by decide +kernel
theorem zf103_9 : fetch 103 9 = some (.lreturn, 1) := by decide +kernel
theorem zf104_0 : fetch 104 0 = some (.iload_n 2, 1) := by decide +kernel
theorem zf104_1 : fetch 104 1 = some (.iconst 1, 1) := by decide +kernel
theorem zf104_2 : fetch 104 2 = some (.if_icmp .ge 7, 3) := by decide +kernel
theorem zf104_9 : fetch 104 9 = some (.lload_n 0, 1) := by decide +kernel
theorem zf104_10 : fetch 104 10 = some (.bipush 33, 2) := by decide +kernel
theorem zf104_12 : fetch 104 12 = some (.lushr, 1) := by decide +kernel
theorem zf104_13 : fetch 104 13 = some (.iload_n 2, 1) := by decide +kernel
theorem zf104_14 : fetch 104 14 = some (.i2l, 1) := by decide +kernel
theorem zf104_15 : fetch 104 15 = some (.lrem, 1) := by decide +kernel
theorem zf104_16 : fetch 104 16 = some (.l2i, 1) := by decide +kernel
theorem zf104_17 : fetch 104 17 = some (.ireturn, 1) := by decide +kernel
theorem zf104_5 : fetch 104 5 = some (.iconst 0, 1) := by decide +kernel
theorem zf104_6 : fetch 104 6 = some (.goto 11, 3) := by decide +kernel
theorem zf102_38 : fetch 102 38 = some (.lload_n 3, 1) := by decide +kernel
theorem zf102_39 : fetch 102 39 = some (.invokestatic 293, 3) := by decide +kernel
theorem zf102_42 : fetch 102 42 = some (.lstore_n 3, 1) := by decide +kernel
theorem zf102_43 : fetch 102 43 = some (.lload_n 3, 1) := by decide +kernel
theorem zf102_44 : fetch 102 44 = some (.aload_n 0, 1) := by decide +kernel
theorem zf102_45 : fetch 102 45 = some (.getfield 19, 3) := by decide +kernel
theorem zf102_48 : fetch 102 48 = some (.getfield 205, 3) := by decide +kernel
theorem zf102_51 : fetch 102 51 = some (.invokestatic 296, 3) := by decide +kernel
theorem zf102_54 : fetch 102 54 = some (.istore 5, 2) := by decide +kernel
theorem zf102_56 : fetch 102 56 = some (.lload_n 3, 1) := by decide +kernel
theorem zf102_57 : fetch 102 57 = some (.invokestatic 293, 3) := by decide +kernel
theorem zf102_60 : fetch 102 60 = some (.lstore_n 3, 1) := by decide +kernel
theorem zf102_61 : fetch 102 61 = some (.lload_n 3, 1) := by decide +kernel
theorem zf102_62 : fetch 102 62 = some (.iconst 2, 1) := by decide +kernel
theorem zf102_63 : fetch 102 63 = some (.invokestatic 296, 3) := by decide +kernel
theorem zf102_66 : fetch 102 66 = some (.istore 6, 2) := by decide +kernel
theorem zf102_68 : fetch 102 68 = some (.lload_n 3, 1) := by decide +kernel
theorem zf102_69 : fetch 102 69 = some (.invokestatic 293, 3) := by decide +kernel
theorem zf102_72 : fetch 102 72 = some (.lstore_n 3, 1) := by decide +kernel
theorem zf102_73 : fetch 102 73 = some (.lload_n 3, 1) := by decide +kernel
theorem zf102_74 : fetch 102 74 = some (.bipush 20, 2) := by decide +kernel
theorem zf102_76 : fetch 102 76 = some (.invokestatic 296, 3) := by decide +kernel
theorem zf102_79 : fetch 102 79 = some (.iconst 1, 1) := by decide +kernel
theorem zf102_80 : fetch 102 80 = some (.iadd, 1) := by decide +kernel
theorem zf102_81 : fetch 102 81 = some (.istore 7, 2) := by decide +kernel
theorem zf102_83 : fetch 102 83 = some (.aload_n 0, 1) := by decide +kernel
theorem zf102_84 : fetch 102 84 = some (.aload_n 0, 1) := by decide +kernel
theorem zf102_85 : fetch 102 85 = some (.getfield 88, 3) := by decide +kernel
theorem zf102_88 : fetch 102 88 = some (.iload 5, 2) := by decide +kernel
theorem zf102_90 : fetch 102 90 = some (.iload 7, 2) := by decide +kernel
theorem zf102_92 : fetch 102 92 = some (.invokevirtual 224, 3) := by decide +kernel
theorem zf102_95 : fetch 102 95 = some (.ifCond .eq 28, 3) := by decide +kernel
theorem zf102_123 : fetch 102 123 = some (.lload_n 3, 1) := by decide +kernel
theorem zf102_124 : fetch 102 124 = some (.lreturn, 1) := by decide +kernel
theorem zf102_98 : fetch 102 98 = some (.aload_n 0, 1) := by decide +kernel
theorem zf102_99 : fetch 102 99 = some (.aload_n 0, 1) := by decide +kernel
theorem zf102_100 : fetch 102 100 = some (.getfield 88, 3) := by decide +kernel
theorem zf102_103 : fetch 102 103 = some (.iload 5, 2) := by decide +kernel
theorem zf102_105 : fetch 102 105 = some (.iload 7, 2) := by decide +kernel
theorem zf102_107 : fetch 102 107 = some (.iload 6, 2) := by decide +kernel
theorem zf102_109 : fetch 102 109 = some (.aload_n 0, 1) := by decide +kernel
theorem zf102_110 : fetch 102 110 = some (.aload_n 0, 1) := by decide +kernel
theorem zf102_111 : fetch 102 111 = some (.getfield 88, 3) := by decide +kernel
theorem zf102_114 : fetch 102 114 = some (.iload 5, 2) := by decide +kernel
theorem zf102_116 : fetch 102 116 = some (.invokevirtual 300, 3) := by decide +kernel
theorem zf102_119 : fetch 102 119 = some (.invokevirtual 239, 3) := by decide +kernel
theorem zf102_122 : fetch 102 122 = some (.pop, 1) := by decide +kernel
theorem zf118_0 : fetch 118 0 = some (.aload_n 0, 1) := by decide +kernel
theorem zf118_1 : fetch 118 1 = some (.getfield 49, 3) := by decide +kernel
theorem zf118_4 : fetch 118 4 = some (.iload_n 2, 1) := by decide +kernel
theorem zf118_5 : fetch 118 5 = some (.iload_n 3, 1) := by decide +kernel
theorem zf118_6 : fetch 118 6 = some (.iconst 1, 1) := by decide +kernel
theorem zf118_7 : fetch 118 7 = some (.invokevirtual 314, 3) := by decide +kernel
theorem zf118_10 : fetch 118 10 = some (.istore 4, 2) := by decide +kernel
theorem zf118_12 : fetch 118 12 = some (.aload_n 0, 1) := by decide +kernel
theorem zf118_13 : fetch 118 13 = some (.getfield 49, 3) := by decide +kernel
theorem zf118_16 : fetch 118 16 = some (.iload_n 2, 1) := by decide +kernel
theorem zf118_17 : fetch 118 17 = some (.iload_n 3, 1) := by decide +kernel
theorem zf118_18 : fetch 118 18 = some (.iconst 2, 1) := by decide +kernel
theorem zf118_19 : fetch 118 19 = some (.invokevirtual 314, 3) := by decide +kernel
theorem zf118_22 : fetch 118 22 = some (.istore 5, 2) := by decide +kernel
theorem zf118_24 : fetch 118 24 = some (.aload_n 0, 1) := by decide +kernel
theorem zf118_25 : fetch 118 25 = some (.getfield 49, 3) := by decide +kernel
theorem zf118_28 : fetch 118 28 = some (.iload_n 2, 1) := by decide +kernel
theorem zf118_29 : fetch 118 29 = some (.iload_n 3, 1) := by decide +kernel
theorem zf118_30 : fetch 118 30 = some (.iconst 0, 1) := by decide +kernel
theorem zf118_31 : fetch 118 31 = some (.invokevirtual 314, 3) := by decide +kernel
theorem zf118_34 : fetch 118 34 = some (.tableswitch 87 0 2 #[26, 44, 70], 26) := by decide +kernel
theorem zf118_60 : fetch 118 60 = some (.aload_n 0, 1) := by decide +kernel
theorem zf118_61 : fetch 118 61 = some (.aload_n 1, 1) := by decide +kernel
theorem zf118_62 : fetch 118 62 = some (.iload 4, 2) := by decide +kernel
theorem zf118_64 : fetch 118 64 = some (.aload_n 0, 1) := by decide +kernel
theorem zf118_65 : fetch 118 65 = some (.getfield 49, 3) := by decide +kernel
theorem zf118_68 : fetch 118 68 = some (.iload_n 2, 1) := by decide +kernel
theorem zf118_69 : fetch 118 69 = some (.iload_n 3, 1) := by decide +kernel
theorem zf118_70 : fetch 118 70 = some (.iconst 3, 1) := by decide +kernel
theorem zf118_71 : fetch 118 71 = some (.invokevirtual 314, 3) := by decide +kernel
theorem zf118_74 : fetch 118 74 = some (.invokevirtual 224, 3) := by decide +kernel
theorem zf118_77 : fetch 118 77 = some (.ireturn, 1) := by decide +kernel
theorem zf118_78 : fetch 118 78 = some (.iload 4, 2) := by decide +kernel
theorem zf118_80 : fetch 118 80 = some (.ifCond .le 22, 3) := by decide +kernel
theorem zf118_102 : fetch 118 102 = some (.iconst 0, 1) := by decide +kernel
theorem zf118_103 : fetch 118 103 = some (.ireturn, 1) := by decide +kernel
theorem zf118_83 : fetch 118 83 = some (.aload_n 1, 1) := by decide +kernel
theorem zf118_84 : fetch 118 84 = some (.getfield 162, 3) := by decide +kernel
theorem zf118_87 : fetch 118 87 = some (.iconst 4, 1) := by decide +kernel
theorem zf118_88 : fetch 118 88 = some (.iaload, 1) := by decide +kernel
theorem zf118_89 : fetch 118 89 = some (.iload 4, 2) := by decide +kernel
theorem zf118_91 : fetch 118 91 = some (.iadd, 1) := by decide +kernel
theorem zf118_92 : fetch 118 92 = some (.sipush 9999, 3) := by decide +kernel
theorem zf118_95 : fetch 118 95 = some (.if_icmp .gt 7, 3) := by decide +kernel
theorem zf118_98 : fetch 118 98 = some (.iconst 1, 1) := by decide +kernel
theorem zf118_99 : fetch 118 99 = some (.goto 4, 3) := by decide +kernel
theorem zf118_104 : fetch 118 104 = some (.aload_n 1, 1) := by decide +kernel
theorem zf118_105 : fetch 118 105 = some (.iload 4, 2) := by decide +kernel
theorem zf118_107 : fetch 118 107 = some (.iload 5, 2) := by decide +kernel
theorem zf118_109 : fetch 118 109 = some (.invokevirtual 246, 3) := by decide +kernel
theorem zf118_112 : fetch 118 112 = some (.ifCond .ne 7, 3) := by decide +kernel
theorem zf118_119 : fetch 118 119 = some (.iconst 0, 1) := by decide +kernel
theorem zf118_120 : fetch 118 120 = some (.ireturn, 1) := by decide +kernel
theorem zf118_115 : fetch 118 115 = some (.iconst 1, 1) := by decide +kernel
theorem zf118_116 : fetch 118 116 = some (.goto 4, 3) := by decide +kernel
theorem zf118_121 : fetch 118 121 = some (.aload_n 0, 1) := by decide +kernel
theorem zf118_122 : fetch 118 122 = some (.aload_n 1, 1) := by decide +kernel
theorem zf118_123 : fetch 118 123 = some (.iload 4, 2) := by decide +kernel
theorem zf118_125 : fetch 118 125 = some (.iload 5, 2) := by decide +kernel
theorem zf118_127 : fetch 118 127 = some (.invokevirtual 243, 3) := by decide +kernel
theorem zf118_130 : fetch 118 130 = some (.ireturn, 1) := by decide +kernel
theorem zf117_66 : fetch 117 66 = some (.iload 6, 2) := by decide +kernel
theorem zf117_68 : fetch 117 68 = some (.iload 5, 2) := by decide +kernel
theorem zf117_70 : fetch 117 70 = some (.if_icmp .ge 29, 3) := by decide +kernel
theorem zf117_99 : fetch 117 99 = some (.iinc 4 1, 3) := by decide +kernel
theorem zf117_102 : fetch 117 102 = some (.goto (-99), 3) := by decide +kernel
theorem zf117_73 : fetch 117 73 = some (.iload_n 3, 1) := by decide +kernel
theorem zf117_74 : fetch 117 74 = some (.ifCond .eq 11, 3) := by decide +kernel
theorem zf117_85 : fetch 117 85 = some (.aload_n 0, 1) := by decide +kernel
theorem zf117_86 : fetch 117 86 = some (.aload_n 1, 1) := by decide +kernel
theorem zf117_87 : fetch 117 87 = some (.iload_n 2, 1) := by decide +kernel
theorem zf117_88 : fetch 117 88 = some (.iload 4, 2) := by decide +kernel
theorem zf117_90 : fetch 117 90 = some (.invokevirtual 325, 3) := by decide +kernel
theorem zf117_93 : fetch 117 93 = some (.iinc 6 1, 3) := by decide +kernel
theorem zf117_96 : fetch 117 96 = some (.goto (-30), 3) := by decide +kernel
theorem zf117_77 : fetch 117 77 = some (.aload_n 0, 1) := by decide +kernel
theorem zf117_78 : fetch 117 78 = some (.getfield 81, 3) := by decide +kernel
theorem zf117_81 : fetch 117 81 = some (.aload_n 1, 1) := by decide +kernel
theorem zf117_82 : fetch 117 82 = some (.invokevirtual 235, 3) := by decide +kernel
theorem zf84_0 : fetch 84 0 = some (.aload_n 0, 1) := by decide +kernel
theorem zf84_1 : fetch 84 1 = some (.getfield 15, 3) := by decide +kernel
theorem zf84_4 : fetch 84 4 = some (.ifCond .lt 14, 3) := by decide +kernel
theorem zf84_18 : fetch 84 18 = some (.iconst 0, 1) := by decide +kernel
theorem zf84_19 : fetch 84 19 = some (.ireturn, 1) := by decide +kernel
theorem zf84_7 : fetch 84 7 = some (.aload_n 0, 1) := by decide +kernel
theorem zf84_8 : fetch 84 8 = some (.getfield 15, 3) := by decide +kernel
theorem zf84_11 : fetch 84 11 = some (.aload_n 0, 1) := by decide +kernel
theorem zf84_12 : fetch 84 12 = some (.getfield 32, 3) := by decide +kernel
theorem zf84_15 : fetch 84 15 = some (.if_icmp .lt 5, 3) := by decide +kernel
theorem zf84_20 : fetch 84 20 = some (.aload_n 0, 1) := by decide +kernel
theorem zf84_21 : fetch 84 21 = some (.getfield 23, 3) := by decide +kernel
theorem zf84_24 : fetch 84 24 = some (.aload_n 0, 1) := by decide +kernel
theorem zf84_25 : fetch 84 25 = some (.getfield 15, 3) := by decide +kernel
theorem zf84_28 : fetch 84 28 = some (.aaload, 1) := by decide +kernel
theorem zf84_29 : fetch 84 29 = some (.astore_n 1, 1) := by decide +kernel
theorem zf84_30 : fetch 84 30 = some (.iconst 0, 1) := by decide +kernel
theorem zf84_31 : fetch 84 31 = some (.istore_n 2, 1) := by decide +kernel
theorem zf84_32 : fetch 84 32 = some (.iconst 0, 1) := by decide +kernel
theorem zf84_33 : fetch 84 33 = some (.istore_n 3, 1) := by decide +kernel
theorem zf126_14 : fetch 126 14 = some (.iload 5, 2) := by decide +kernel
theorem zf126_16 : fetch 126 16 = some (.bipush 8, 2) := by decide +kernel
theorem zf126_18 : fetch 126 18 = some (.if_icmp .ge 20, 3) := by decide +kernel
theorem zf126_38 : fetch 126 38 = some (.iconst 0, 1) := by decide +kernel
theorem zf126_39 : fetch 126 39 = some (.istore 5, 2) := by decide +kernel
theorem zf126_21 : fetch 126 21 = some (.aload_n 0, 1) := by decide +kernel
theorem zf126_22 : fetch 126 22 = some (.getfield 13, 3) := by decide +kernel
theorem zf126_25 : fetch 126 25 = some (.iload 4, 2) := by decide +kernel
theorem zf126_27 : fetch 126 27 = some (.iload 5, 2) := by decide +kernel
theorem zf126_29 : fetch 126 29 = some (.iadd, 1) := by decide +kernel
theorem zf126_30 : fetch 126 30 = some (.iconst (-1), 1) := by decide +kernel
theorem zf126_31 : fetch 126 31 = some (.iastore, 1) := by decide +kernel
theorem zf126_32 : fetch 126 32 = some (.iinc 5 1, 3) := by decide +kernel
theorem zf126_35 : fetch 126 35 = some (.goto (-21), 3) := by decide +kernel
theorem zf48_5 : fetch 48 5 = some (.iload_n 2, 1) := by decide +kernel
theorem zf48_6 : fetch 48 6 = some (.iload_n 3, 1) := by decide +kernel
theorem zf48_7 : fetch 48 7 = some (.if_icmp .ge 13, 3) := by decide +kernel
theorem zf48_20 : fetch 48 20 = some (.return_, 1) := by decide +kernel
theorem zf48_10 : fetch 48 10 = some (.aload_n 0, 1) := by decide +kernel
theorem zf48_11 : fetch 48 11 = some (.iload_n 2, 1) := by decide +kernel
theorem zf48_12 : fetch 48 12 = some (.iload_n 1, 1) := by decide +kernel
theorem zf48_13 : fetch 48 13 = some (.iastore, 1) := by decide +kernel
theorem zf48_14 : fetch 48 14 = some (.iinc 2 1, 3) := by decide +kernel
theorem zf48_17 : fetch 48 17 = some (.goto (-12), 3) := by decide +kernel
theorem zf128_47 : fetch 128 47 = some (.iload 5, 2) := by decide +kernel
theorem zf128_49 : fetch 128 49 = some (.aload_n 0, 1) := by decide +kernel
theorem zf128_50 : fetch 128 50 = some (.getfield 29, 3) := by decide +kernel
theorem zf128_53 : fetch 128 53 = some (.getfield 43, 3) := by decide +kernel
theorem zf128_56 : fetch 128 56 = some (.if_icmp .ge 123, 3) := by decide +kernel
theorem zf128_179 : fetch 128 179 = some (.iinc 4 1, 3) := by decide +kernel
theorem zf128_182 : fetch 128 182 = some (.goto (-150), 3) := by decide +kernel
theorem zf128_59 : fetch 128 59 = some (.iconst 0, 1) := by decide +kernel
theorem zf128_60 : fetch 128 60 = some (.istore 6, 2) := by decide +kernel
theorem zf133_0 : fetch 133 0 = some (.iload_n 2, 1) := by decide +kernel
theorem zf133_1 : fetch 133 1 = some (.iconst 1, 1) := by decide +kernel
theorem zf133_2 : fetch 133 2 = some (.if_icmp .le 7, 3) := by decide +kernel
theorem zf133_9 : fetch 133 9 = some (.iload 4, 2) := by decide +kernel
theorem zf133_11 : fetch 133 11 = some (.istore 5, 2) := by decide +kernel
theorem zf133_13 : fetch 133 13 = some (.iload_n 2, 1) := by decide +kernel
theorem zf133_14 : fetch 133 14 = some (.iconst 1, 1) := by decide +kernel
theorem zf133_15 : fetch 133 15 = some (.if_icmp .le 13, 3) := by decide +kernel
theorem zf133_28 : fetch 133 28 = some (.iload 4, 2) := by decide +kernel
theorem zf133_30 : fetch 133 30 = some (.iconst 1, 1) := by decide +kernel
theorem zf133_31 : fetch 133 31 = some (.iadd, 1) := by decide +kernel
theorem zf133_32 : fetch 133 32 = some (.istore 6, 2) := by decide +kernel
theorem zf133_34 : fetch 133 34 = some (.iconst 0, 1) := by decide +kernel
theorem zf133_35 : fetch 133 35 = some (.istore 7, 2) := by decide +kernel
theorem zf133_18 : fetch 133 18 = some (.aload_n 0, 1) := by decide +kernel
theorem zf133_19 : fetch 133 19 = some (.getfield 29, 3) := by decide +kernel
theorem zf133_22 : fetch 133 22 = some (.getfield 43, 3) := by decide +kernel
theorem zf133_25 : fetch 133 25 = some (.goto 7, 3) := by decide +kernel
theorem zf133_5 : fetch 133 5 = some (.iconst 0, 1) := by decide +kernel
theorem zf133_6 : fetch 133 6 = some (.goto 5, 3) := by decide +kernel
theorem zf139_22 : fetch 139 22 = some (.iload_n 3, 1) := by decide +kernel
theorem zf139_23 : fetch 139 23 = some (.aload_n 0, 1) := by decide +kernel
theorem zf139_24 : fetch 139 24 = some (.getfield 29, 3) := by decide +kernel
theorem zf139_27 : fetch 139 27 = some (.getfield 71, 3) := by decide +kernel
theorem zf139_30 : fetch 139 30 = some (.if_icmp .ge 63, 3) := by decide +kernel
theorem zf139_93 : fetch 139 93 = some (.iinc 2 1, 3) := by decide +kernel
theorem zf139_96 : fetch 139 96 = some (.goto (-94), 3) := by decide +kernel
theorem zf139_33 : fetch 139 33 = some (.iconst 0, 1) := by decide +kernel
theorem zf139_34 : fetch 139 34 = some (.istore 4, 2) := by decide +kernel
theorem zf140_36 : fetch 140 36 = some (.iload 6, 2) := by decide +kernel
theorem zf140_38 : fetch 140 38 = some (.aload_n 0, 1) := by decide +kernel
theorem zf140_39 : fetch 140 39 = some (.getfield 29, 3) := by decide +kernel
theorem zf140_42 : fetch 140 42 = some (.getfield 43, 3) := by decide +kernel
theorem zf140_45 : fetch 140 45 = some (.if_icmp .ge 39, 3) := by decide +kernel
theorem zf140_84 : fetch 140 84 = some (.iinc 5 1, 3) := by decide +kernel
theorem zf140_87 : fetch 140 87 = some (.goto (-66), 3) := by decide +kernel
theorem zf140_48 : fetch 140 48 = some (.iload 4, 2) := by decide +kernel
theorem zf140_50 : fetch 140 50 = some (.iload 4, 2) := by decide +kernel
theorem zf140_52 : fetch 140 52 = some (.iload 6, 2) := by decide +kernel
theorem zf140_54 : fetch 140 54 = some (.ishr, 1) := by decide +kernel
theorem zf140_55 : fetch 140 55 = some (.iconst 1, 1) := by decide +kernel
theorem zf140_56 : fetch 140 56 = some (.iand, 1) := by decide +kernel
theorem zf140_57 : fetch 140 57 = some (.ifCond .eq 17, 3) := by decide +kernel
theorem zf140_74 : fetch 140 74 = some (.iconst 0, 1) := by decide +kernel
theorem zf140_75 : fetch 140 75 = some (.ior, 1) := by decide +kernel
theorem zf140_76 : fetch 140 76 = some (.istore 4, 2) := by decide +kernel
theorem zf140_78 : fetch 140 78 = some (.iinc 6 1, 3) := by decide +kernel
theorem zf140_81 : fetch 140 81 = some (.goto (-45), 3) := by decide +kernel
theorem zf140_60 : fetch 140 60 = some (.aload_n 0, 1) := by decide +kernel
theorem zf140_61 : fetch 140 61 = some (.getfield 23, 3) := by decide +kernel
theorem zf140_64 : fetch 140 64 = some (.iload 6, 2) := by decide +kernel
theorem zf140_66 : fetch 140 66 = some (.iaload, 1) := by decide +kernel
theorem zf140_67 : fetch 140 67 = some (.iload_n 3, 1) := by decide +kernel
theorem zf140_68 : fetch 140 68 = some (.iconst (-1), 1) := by decide +kernel
theorem zf140_69 : fetch 140 69 = some (.ixor, 1) := by decide +kernel
theorem zf140_70 : fetch 140 70 = some (.iand, 1) := by decide +kernel
theorem zf140_71 : fetch 140 71 = some (.goto 4, 3) := by decide +kernel
theorem zf151_0 : fetch 151 0 = some (.iconst 0, 1) := by decide +kernel
theorem zf151_1 : fetch 151 1 = some (.istore_n 2, 1) := by decide +kernel
theorem zf154_29 : fetch 154 29 = some (.iload 6, 2) := by decide +kernel
theorem zf154_31 : fetch 154 31 = some (.bipush 20, 2) := by decide +kernel
theorem zf154_33 : fetch 154 33 = some (.if_icmp .gt 41, 3) := by decide +kernel
theorem zf154_74 : fetch 154 74 = some (.iinc 5 1, 3) := by decide +kernel
theorem zf154_77 : fetch 154 77 = some (.goto (-64), 3) := by decide +kernel
theorem zf154_36 : fetch 154 36 = some (.aload_n 0, 1) := by decide +kernel
theorem zf154_37 : fetch 154 37 = some (.iload_n 1, 1) := by decide +kernel
theorem zf154_38 : fetch 154 38 = some (.iload_n 2, 1) := by decide +kernel
theorem zf154_39 : fetch 154 39 = some (.iload 6, 2) := by decide +kernel
theorem zf154_41 : fetch 154 41 = some (.iload 5, 2) := by decide +kernel
theorem zf154_43 : fetch 154 43 = some (.invokevirtual 72, 3) := by decide +kernel
theorem zf154_46 : fetch 154 46 = some (.istore 7, 2) := by decide +kernel
theorem zf154_48 : fetch 154 48 = some (.iload 7, 2) := by decide +kernel
theorem zf154_50 : fetch 154 50 = some (.iload 4, 2) := by decide +kernel
theorem zf154_52 : fetch 154 52 = some (.if_icmp .ge 16, 3) := by decide +kernel
theorem zf154_68 : fetch 154 68 = some (.iinc 6 1, 3) := by decide +kernel
theorem zf154_71 : fetch 154 71 = some (.goto (-42), 3) := by decide +kernel
theorem zf154_55 : fetch 154 55 = some (.iload 7, 2) := by decide +kernel
theorem zf154_57 : fetch 154 57 = some (.istore 4, 2) := by decide +kernel
theorem zf154_59 : fetch 154 59 = some (.bipush 100, 2) := by decide +kernel
theorem zf154_61 : fetch 154 61 = some (.iload 5, 2) := by decide +kernel
theorem zf154_63 : fetch 154 63 = some (.imul, 1) := by decide +kernel
theorem zf154_64 : fetch 154 64 = some (.iload 6, 2) := by decide +kernel
theorem zf154_66 : fetch 154 66 = some (.iadd, 1) := by decide +kernel
theorem zf154_67 : fetch 154 67 = some (.istore_n 3, 1) := by decide +kernel
theorem zf161_0 : fetch 161 0 = some (.lconst 1, 1) := by decide +kernel
theorem zf161_1 : fetch 161 1 = some (.lstore_n 2, 1) := by decide +kernel
theorem zf161_2 : fetch 161 2 = some (.iconst 0, 1) := by decide +kernel
theorem zf161_3 : fetch 161 3 = some (.istore 4, 2) := by decide +kernel
theorem zf163_2 : fetch 163 2 = some (.iload_n 2, 1) := by decide +kernel
theorem zf163_3 : fetch 163 3 = some (.aload_n 0, 1) := by decide +kernel
theorem zf163_4 : fetch 163 4 = some (.getfield 42, 3) := by decide +kernel
theorem zf163_7 : fetch 163 7 = some (.if_icmp .ge 21, 3) := by decide +kernel
theorem zf163_28 : fetch 163 28 = some (.iconst 0, 1) := by decide +kernel
theorem zf163_29 : fetch 163 29 = some (.ireturn, 1) := by decide +kernel
theorem zf163_10 : fetch 163 10 = some (.aload_n 0, 1) := by decide +kernel
theorem zf163_11 : fetch 163 11 = some (.getfield 23, 3) := by decide +kernel
theorem zf163_14 : fetch 163 14 = some (.iload_n 2, 1) := by decide +kernel
theorem zf163_15 : fetch 163 15 = some (.iaload, 1) := by decide +kernel
theorem zf163_16 : fetch 163 16 = some (.iload_n 1, 1) := by decide +kernel
theorem zf163_17 : fetch 163 17 = some (.if_icmp .ne 5, 3) := by decide +kernel
theorem zf163_22 : fetch 163 22 = some (.iinc 2 1, 3) := by decide +kernel
theorem zf163_25 : fetch 163 25 = some (.goto (-23), 3) := by decide +kernel
theorem zf163_20 : fetch 163 20 = some (.iconst 1, 1) := by decide +kernel
theorem zf163_21 : fetch 163 21 = some (.ireturn, 1) := by decide +kernel
theorem zf167_94 : fetch 167 94 = some (.istore 8, 2) := by decide +kernel
theorem zf167_96 : fetch 167 96 = some (.iload 8, 2) := by decide +kernel
theorem zf167_98 : fetch 167 98 = some (.ifCond .eq 19, 3) := by decide +kernel
theorem zf167_117 : fetch 167 117 = some (.iload 5, 2) := by decide +kernel
theorem zf167_119 : fetch 167 119 = some (.iload 8, 2) := by decide +kernel
theorem zf167_121 : fetch 167 121 = some (.ifCond .eq 7, 3) := by decide +kernel
theorem zf167_128 : fetch 167 128 = some (.iconst 0, 1) := by decide +kernel
theorem zf167_129 : fetch 167 129 = some (.iadd, 1) := by decide +kernel
theorem zf167_130 : fetch 167 130 = some (.istore 5, 2) := by decide +kernel
theorem zf167_132 : fetch 167 132 = some (.iinc 7 1, 3) := by decide +kernel
theorem zf167_135 : fetch 167 135 = some (.goto (-102), 3) := by decide +kernel
theorem zf167_124 : fetch 167 124 = some (.iconst 1, 1) := by decide +kernel
theorem zf167_125 : fetch 167 125 = some (.goto 4, 3) := by decide +kernel
theorem zf167_101 : fetch 167 101 = some (.iload 5, 2) := by decide +kernel
theorem zf167_103 : fetch 167 103 = some (.iload 4, 2) := by decide +kernel
theorem zf167_105 : fetch 167 105 = some (.if_icmp .ne 12, 3) := by decide +kernel
theorem zf167_108 : fetch 167 108 = some (.bipush 10, 2) := by decide +kernel
theorem zf167_110 : fetch 167 110 = some (.iload 6, 2) := by decide +kernel
theorem zf167_112 : fetch 167 112 = some (.imul, 1) := by decide +kernel
theorem zf167_113 : fetch 167 113 = some (.iload 7, 2) := by decide +kernel
theorem zf167_115 : fetch 167 115 = some (.iadd, 1) := by decide +kernel
theorem zf167_116 : fetch 167 116 = some (.ireturn, 1) := by decide +kernel
theorem zf213_17 : fetch 213 17 = some (.iload_n 2, 1) := by decide +kernel
theorem zf213_18 : fetch 213 18 = some (.ifCond .eq 73, 3) := by decide +kernel
theorem zf213_91 : fetch 213 91 = some (.aload_n 0, 1) := by decide +kernel
theorem zf213_92 : fetch 213 92 = some (.getfield 58, 3) := by decide +kernel
theorem zf213_95 : fetch 213 95 = some (.iconst 4, 1) := by decide +kernel
theorem zf213_96 : fetch 213 96 = some (.iload_n 1, 1) := by decide +kernel
theorem zf213_97 : fetch 213 97 = some (.iastore, 1) := by decide +kernel
theorem zf213_98 : fetch 213 98 = some (.aload_n 0, 1) := by decide +kernel
theorem zf213_99 : fetch 213 99 = some (.invokevirtual 138, 3) := by decide +kernel
theorem zf213_102 : fetch 213 102 = some (.iconst (-1), 1) := by decide +kernel
theorem zf213_103 : fetch 213 103 = some (.if_icmp .eq 8, 3) := by decide +kernel
theorem zf213_111 : fetch 213 111 = some (.return_, 1) := by decide +kernel
theorem zf213_106 : fetch 213 106 = some (.aload_n 0, 1) := by decide +kernel
theorem zf213_107 : fetch 213 107 = some (.invokevirtual 134, 3) := by decide +kernel
theorem zf213_110 : fetch 213 110 = some (.pop, 1) := by decide +kernel
theorem zf213_21 : fetch 213 21 = some (.aload_n 0, 1) := by decide +kernel
theorem zf213_22 : fetch 213 22 = some (.iconst 4, 1) := by decide +kernel
theorem zf213_23 : fetch 213 23 = some (.bipush 64, 2) := by decide +kernel
theorem zf213_25 : fetch 213 25 = some (.iload_n 1, 1) := by decide +kernel
theorem zf213_26 : fetch 213 26 = some (.iadd, 1) := by decide +kernel
theorem zf213_27 : fetch 213 27 = some (.imul, 1) := by decide +kernel
theorem zf213_28 : fetch 213 28 = some (.invokevirtual 272, 3) := by decide +kernel
theorem zf213_31 : fetch 213 31 = some (.aload_n 0, 1) := by decide +kernel
theorem zf213_32 : fetch 213 32 = some (.getfield 128, 3) := by decide +kernel
theorem zf213_35 : fetch 213 35 = some (.iconst (-1), 1) := by decide +kernel
theorem zf213_36 : fetch 213 36 = some (.if_icmp .eq 4, 3) := by decide +kernel
theorem zf213_40 : fetch 213 40 = some (.iinc 1 1, 3) := by decide +kernel
theorem zf213_43 : fetch 213 43 = some (.aload_n 0, 1) := by decide +kernel
theorem zf213_44 : fetch 213 44 = some (.invokevirtual 138, 3) := by decide +kernel
theorem zf213_47 : fetch 213 47 = some (.bipush 59, 2) := by decide +kernel
theorem zf213_49 : fetch 213 49 = some (.if_icmp .ne 7, 3) := by decide +kernel
theorem zf213_56 : fetch 213 56 = some (.iconst 0, 1) := by decide +kernel
theorem zf213_52 : fetch 213 52 = some (.iconst 1, 1) := by decide +kernel
theorem zf213_53 : fetch 213 53 = some (.goto 4, 3) := by decide +kernel
theorem zf213_39 : fetch 213 39 = some (.return_, 1) := by decide +kernel
theorem zf200_0 : fetch 200 0 = some (.aload_n 0, 1) := by decide +kernel
theorem zf200_1 : fetch 200 1 = some (.invokevirtual 138, 3) := by decide +kernel
theorem zf200_4 : fetch 200 4 = some (.istore_n 1, 1) := by decide +kernel
theorem zf200_5 : fetch 200 5 = some (.ldc 26, 2) := by decide +kernel
theorem zf200_7 : fetch 200 7 = some (.iload_n 1, 1) := by decide +kernel
theorem zf200_8 : fetch 200 8 = some (.invokestatic 154, 3) := by decide +kernel
theorem zf200_11 : fetch 200 11 = some (.ifCond .ne 9, 3) := by decide +kernel
theorem zf200_20 : fetch 200 20 = some (.aload_n 0, 1) := by decide +kernel
theorem zf200_21 : fetch 200 21 = some (.dup, 1) := by decide +kernel
theorem zf200_22 : fetch 200 22 = some (.getfield 119, 3) := by decide +kernel
theorem zf200_25 : fetch 200 25 = some (.iconst 1, 1) := by decide +kernel
theorem zf200_26 : fetch 200 26 = some (.iadd, 1) := by decide +kernel
theorem zf200_27 : fetch 200 27 = some (.putfield 119, 3) := by decide +kernel
theorem zf200_30 : fetch 200 30 = some (.aload_n 0, 1) := by decide +kernel
theorem zf200_31 : fetch 200 31 = some (.bipush 58, 2) := by decide +kernel
theorem zf200_33 : fetch 200 33 = some (.invokevirtual 164, 3) := by decide +kernel
theorem zf200_36 : fetch 200 36 = some (.ifCond .ne 4, 3) := by decide +kernel
theorem zf200_40 : fetch 200 40 = some (.iconst 1, 1) := by decide +kernel
theorem zf200_41 : fetch 200 41 = some (.istore_n 2, 1) := by decide +kernel
theorem zf200_42 : fetch 200 42 = some (.iconst 0, 1) := by decide +kernel
theorem zf200_43 : fetch 200 43 = some (.istore_n 3, 1) := by decide +kernel
theorem zf200_44 : fetch 200 44 = some (.aload_n 0, 1) := by decide +kernel
theorem zf200_45 : fetch 200 45 = some (.invokevirtual 138, 3) := by decide +kernel
theorem zf200_48 : fetch 200 48 = some (.istore 4, 2) := by decide +kernel
theorem zf200_50 : fetch 200 50 = some (.iload 4, 2) := by decide +kernel
theorem zf200_52 : fetch 200 52 = some (.bipush 33, 2) := by decide +kernel
theorem zf200_54 : fetch 200 54 = some (.if_icmp .eq 10, 3) := by decide +kernel
theorem zf200_64 : fetch 200 64 = some (.aload_n 0, 1) := by decide +kernel
theorem zf200_65 : fetch 200 65 = some (.iconst 0, 1) := by decide +kernel
theorem zf200_66 : fetch 200 66 = some (.iconst 0, 1) := by decide +kernel
theorem zf200_67 : fetch 200 67 = some (.invokevirtual 187, 3) := by decide +kernel
theorem zf200_70 : fetch 200 70 = some (.istore_n 2, 1) := by decide +kernel
theorem zf200_71 : fetch 200 71 = some (.aload_n 0, 1) := by decide +kernel
theorem zf200_72 : fetch 200 72 = some (.bipush 63, 2) := by decide +kernel
theorem zf200_74 : fetch 200 74 = some (.invokevirtual 164, 3) := by decide +kernel
theorem zf200_77 : fetch 200 77 = some (.ifCond .ne 4, 3) := by decide +kernel
theorem zf200_81 : fetch 200 81 = some (.aload_n 0, 1) := by decide +kernel
theorem zf200_82 : fetch 200 82 = some (.invokevirtual 161, 3) := by decide +kernel
theorem zf200_85 : fetch 200 85 = some (.istore_n 3, 1) := by decide +kernel
theorem zf200_86 : fetch 200 86 = some (.goto 48, 3) := by decide +kernel
theorem zf200_80 : fetch 200 80 = some (.return_, 1) := by decide +kernel
theorem zf200_57 : fetch 200 57 = some (.iload 4, 2) := by decide +kernel
theorem zf200_59 : fetch 200 59 = some (.bipush 40, 2) := by decide +kernel
theorem zf200_61 : fetch 200 61 = some (.if_icmp .ne 28, 3) := by decide +kernel
theorem zf200_89 : fetch 200 89 = some (.aload_n 0, 1) := by decide +kernel
theorem zf200_90 : fetch 200 90 = some (.invokevirtual 161, 3) := by decide +kernel
theorem zf200_93 : fetch 200 93 = some (.istore_n 3, 1) := by decide +kernel
theorem zf200_94 : fetch 200 94 = some (.aload_n 0, 1) := by decide +kernel
theorem zf200_95 : fetch 200 95 = some (.getfield 128, 3) := by decide +kernel
theorem zf200_98 : fetch 200 98 = some (.iconst (-1), 1) := by decide +kernel
theorem zf200_99 : fetch 200 99 = some (.if_icmp .ne 35, 3) := by decide +kernel
theorem zf200_102 : fetch 200 102 = some (.aload_n 0, 1) := by decide +kernel
theorem zf200_103 : fetch 200 103 = some (.invokevirtual 138, 3) := by decide +kernel
theorem zf200_106 : fetch 200 106 = some (.invokestatic 181, 3) := by decide +kernel
theorem zf200_109 : fetch 200 109 = some (.ifCond .eq 25, 3) := by decide +kernel
theorem zf200_112 : fetch 200 112 = some (.aload_n 0, 1) := by decide +kernel
theorem zf200_113 : fetch 200 113 = some (.iconst 1, 1) := by decide +kernel
theorem zf200_114 : fetch 200 114 = some (.iload_n 3, 1) := by decide +kernel
theorem zf200_115 : fetch 200 115 = some (.invokevirtual 187, 3) := by decide +kernel
theorem zf200_118 : fetch 200 118 = some (.istore_n 2, 1) := by decide +kernel
theorem zf200_119 : fetch 200 119 = some (.aload_n 0, 1) := by decide +kernel
theorem zf200_120 : fetch 200 120 = some (.bipush 63, 2) := by decide +kernel
theorem zf200_122 : fetch 200 122 = some (.invokevirtual 164, 3) := by decide +kernel
theorem zf200_125 : fetch 200 125 = some (.ifCond .ne 4, 3) := by decide +kernel
theorem zf200_129 : fetch 200 129 = some (.aload_n 0, 1) := by decide +kernel
theorem zf200_130 : fetch 200 130 = some (.invokevirtual 161, 3) := by decide +kernel
theorem zf200_133 : fetch 200 133 = some (.istore_n 3, 1) := by decide +kernel
theorem zf200_128 : fetch 200 128 = some (.return_, 1) := by decide +kernel
theorem zf200_39 : fetch 200 39 = some (.return_, 1) := by decide +kernel
theorem zf200_14 : fetch 200 14 = some (.aload_n 0, 1) := by decide +kernel
theorem zf200_15 : fetch 200 15 = some (.invokevirtual 134, 3) := by decide +kernel
theorem zf200_18 : fetch 200 18 = some (.pop, 1) := by decide +kernel
theorem zf200_19 : fetch 200 19 = some (.return_, 1) := by decide +kernel
theorem zf199_32 : fetch 199 32 = some (.aload_n 0, 1) := by decide +kernel
theorem zf199_33 : fetch 199 33 = some (.getfield 128, 3) := by decide +kernel
theorem zf199_36 : fetch 199 36 = some (.iconst (-1), 1) := by decide +kernel
theorem zf199_37 : fetch 199 37 = some (.if_icmp .ne 29, 3) := by decide +kernel
theorem zf199_66 : fetch 199 66 = some (.aload_n 0, 1) := by decide +kernel
theorem zf199_67 : fetch 199 67 = some (.getfield 128, 3) := by decide +kernel
theorem zf199_70 : fetch 199 70 = some (.iconst (-1), 1) := by decide +kernel
theorem zf199_71 : fetch 199 71 = some (.if_icmp .ne 16, 3) := by decide +kernel
theorem zf199_87 : fetch 199 87 = some (.return_, 1) := by decide +kernel
theorem zf199_74 : fetch 199 74 = some (.aload_n 0, 1) := by decide +kernel
theorem zf199_75 : fetch 199 75 = some (.invokevirtual 138, 3) := by decide +kernel
theorem zf199_78 : fetch 199 78 = some (.iconst (-1), 1) := by decide +kernel
theorem zf199_79 : fetch 199 79 = some (.if_icmp .eq 8, 3) := by decide +kernel
theorem zf199_82 : fetch 199 82 = some (.aload_n 0, 1) := by decide +kernel
theorem zf199_83 : fetch 199 83 = some (.invokevirtual 134, 3) := by decide +kernel
theorem zf199_86 : fetch 199 86 = some (.pop, 1) := by decide +kernel
theorem zf199_40 : fetch 199 40 = some (.aload_n 0, 1) := by decide +kernel
theorem zf199_41 : fetch 199 41 = some (.invokevirtual 138, 3) := by decide +kernel
theorem zf199_44 : fetch 199 44 = some (.bipush 59, 2) := by decide +kernel
theorem zf199_46 : fetch 199 46 = some (.if_icmp .ne 20, 3) := by decide +kernel
theorem zf199_49 : fetch 199 49 = some (.aload_n 0, 1) := by decide +kernel
theorem zf199_50 : fetch 199 50 = some (.dup, 1) := by decide +kernel
theorem zf199_51 : fetch 199 51 = some (.getfield 119, 3) := by decide +kernel
theorem zf199_54 : fetch 199 54 = some (.iconst 1, 1) := by decide +kernel
theorem zf199_55 : fetch 199 55 = some (.iadd, 1) := by decide +kernel
theorem zf199_56 : fetch 199 56 = some (.putfield 119, 3) := by decide +kernel
theorem zf199_59 : fetch 199 59 = some (.aload_n 0, 1) := by decide +kernel
theorem zf199_60 : fetch 199 60 = some (.invokevirtual 211, 3) := by decide +kernel
theorem zf199_63 : fetch 199 63 = some (.goto (-31), 3) := by decide +kernel
theorem zf184_55 : fetch 184 55 = some (.iload_n 1, 1) := by decide +kernel
theorem zf184_56 : fetch 184 56 = some (.ifCond .eq 55, 3) := by decide +kernel
theorem zf184_59 : fetch 184 59 = some (.aload_n 0, 1) := by decide +kernel
theorem zf184_60 : fetch 184 60 = some (.getfield 128, 3) := by decide +kernel
theorem zf184_63 : fetch 184 63 = some (.iconst (-1), 1) := by decide +kernel
theorem zf184_64 : fetch 184 64 = some (.if_icmp .ne 47, 3) := by decide +kernel
theorem zf184_67 : fetch 184 67 = some (.aload_n 0, 1) := by decide +kernel
theorem zf184_68 : fetch 184 68 = some (.invokevirtual 261, 3) := by decide +kernel
theorem zf184_71 : fetch 184 71 = some (.aload_n 0, 1) := by decide +kernel
theorem zf184_72 : fetch 184 72 = some (.getfield 128, 3) := by decide +kernel
theorem zf184_75 : fetch 184 75 = some (.iconst (-1), 1) := by decide +kernel
theorem zf184_76 : fetch 184 76 = some (.if_icmp .ne 16, 3) := by decide +kernel
theorem zf184_92 : fetch 184 92 = some (.iconst 0, 1) := by decide +kernel
theorem zf184_93 : fetch 184 93 = some (.istore_n 1, 1) := by decide +kernel
theorem zf184_94 : fetch 184 94 = some (.iload_n 1, 1) := by decide +kernel
theorem zf184_95 : fetch 184 95 = some (.ifCond .eq (-40), 3) := by decide +kernel
theorem zf184_79 : fetch 184 79 = some (.aload_n 0, 1) := by decide +kernel
theorem zf184_80 : fetch 184 80 = some (.invokevirtual 138, 3) := by decide +kernel
theorem zf184_83 : fetch 184 83 = some (.bipush 59, 2) := by decide +kernel
theorem zf184_85 : fetch 184 85 = some (.if_icmp .ne 7, 3) := by decide +kernel
theorem zf184_88 : fetch 184 88 = some (.iconst 1, 1) := by decide +kernel
theorem zf184_89 : fetch 184 89 = some (.goto 4, 3) := by decide +kernel
theorem zf184_98 : fetch 184 98 = some (.aload_n 0, 1) := by decide +kernel
theorem zf184_99 : fetch 184 99 = some (.dup, 1) := by decide +kernel
theorem zf184_100 : fetch 184 100 = some (.getfield 119, 3) := by decide +kernel
theorem zf184_103 : fetch 184 103 = some (.iconst 1, 1) := by decide +kernel
theorem zf184_104 : fetch 184 104 = some (.iadd, 1) := by decide +kernel
theorem zf184_105 : fetch 184 105 = some (.putfield 119, 3) := by decide +kernel
theorem zf184_108 : fetch 184 108 = some (.goto (-53), 3) := by decide +kernel
theorem zf186_0 : fetch 186 0 = some (.iload_n 0, 1) := by decide +kernel
theorem zf186_1 : fetch 186 1 = some (.bipush 115, 2) := by decide +kernel
theorem zf186_3 : fetch 186 3 = some (.if_icmp .ne 32, 3) := by decide +kernel
theorem zf186_35 : fetch 186 35 = some (.iload_n 0, 1) := by decide +kernel
theorem zf186_36 : fetch 186 36 = some (.bipush 102, 2) := by decide +kernel
theorem zf186_38 : fetch 186 38 = some (.if_icmp .ne 14, 3) := by decide +kernel
theorem zf186_52 : fetch 186 52 = some (.iload_n 1, 1) := by decide +kernel
theorem zf186_53 : fetch 186 53 = some (.ifCond .ne 7, 3) := by decide +kernel
theorem zf186_60 : fetch 186 60 = some (.iload_n 1, 1) := by decide +kernel
theorem zf186_61 : fetch 186 61 = some (.iconst 1, 1) := by decide +kernel
theorem zf186_62 : fetch 186 62 = some (.if_icmp .ne 7, 3) := by decide +kernel
theorem zf186_69 : fetch 186 69 = some (.iconst 0, 1) := by decide +kernel
theorem zf186_70 : fetch 186 70 = some (.ireturn, 1) := by decide +kernel
theorem zf186_65 : fetch 186 65 = some (.iconst 5, 1) := by decide +kernel
theorem zf186_66 : fetch 186 66 = some (.goto 4, 3) := by decide +kernel
theorem zf186_56 : fetch 186 56 = some (.iconst 3, 1) := by decide +kernel
theorem zf186_57 : fetch 186 57 = some (.goto 13, 3) := by decide +kernel
theorem zf186_41 : fetch 186 41 = some (.iload_n 1, 1) := by decide +kernel
theorem zf186_42 : fetch 186 42 = some (.iconst 2, 1) := by decide +kernel
theorem zf186_43 : fetch 186 43 = some (.if_icmp .ne 7, 3) := by decide +kernel
theorem zf186_50 : fetch 186 50 = some (.iconst 0, 1) := by decide +kernel
theorem zf186_51 : fetch 186 51 = some (.ireturn, 1) := by decide +kernel
theorem zf186_46 : fetch 186 46 = some (.iconst 2, 1) := by decide +kernel
theorem zf186_47 : fetch 186 47 = some (.goto 4, 3) := by decide +kernel
theorem zf186_6 : fetch 186 6 = some (.iload_n 1, 1) := by decide +kernel
theorem zf186_7 : fetch 186 7 = some (.ifCond .ne 7, 3) := by decide +kernel
theorem zf186_14 : fetch 186 14 = some (.iload_n 1, 1) := by decide +kernel
theorem zf186_15 : fetch 186 15 = some (.iconst 1, 1) := by decide +kernel
theorem zf186_16 : fetch 186 16 = some (.if_icmp .ne 7, 3) := by decide +kernel
theorem zf186_23 : fetch 186 23 = some (.iload_n 1, 1) := by decide +kernel
theorem zf186_24 : fetch 186 24 = some (.iconst 2, 1) := by decide +kernel
theorem zf186_25 : fetch 186 25 = some (.if_icmp .ne 8, 3) := by decide +kernel
theorem zf186_33 : fetch 186 33 = some (.iconst 3, 1) := by decide +kernel
theorem zf186_34 : fetch 186 34 = some (.ireturn, 1) := by decide +kernel
theorem zf186_28 : fetch 186 28 = some (.bipush 50, 2) := by decide +kernel
theorem zf186_30 : fetch 186 30 = some (.goto 4, 3) := by decide +kernel
theorem zf186_19 : fetch 186 19 = some (.iconst 0, 1) := by decide +kernel
theorem zf186_20 : fetch 186 20 = some (.goto 14, 3) := by decide +kernel
theorem zf186_10 : fetch 186 10 = some (.iconst 1, 1) := by decide +kernel
theorem zf186_11 : fetch 186 11 = some (.goto 23, 3) := by decide +kernel
theorem zf216_248 : fetch 216 248 = some (.iload_n 3, 1) := by decide +kernel
theorem zf216_249 : fetch 216 249 = some (.bipush 24, 2) := by decide +kernel
theorem zf216_251 : fetch 216 251 = some (.if_icmp .ge 21, 3) := by decide +kernel
theorem zf216_272 : fetch 216 272 = some (.iconst 0, 1) := by decide +kernel
theorem zf216_273 : fetch 216 273 = some (.istore_n 3, 1) := by decide +kernel
theorem zf216_254 : fetch 216 254 = some (.aload_n 0, 1) := by decide +kernel
theorem zf216_255 : fetch 216 255 = some (.getfield 43, 3) := by decide +kernel
theorem zf216_258 : fetch 216 258 = some (.iload_n 3, 1) := by decide +kernel
theorem zf216_259 : fetch 216 259 = some (.aload_n 0, 1) := by decide +kernel
theorem zf216_260 : fetch 216 260 = some (.getfield 46, 3) := by decide +kernel
theorem zf216_263 : fetch 216 263 = some (.iload_n 3, 1) := by decide +kernel
theorem zf216_264 : fetch 216 264 = some (.iaload, 1) := by decide +kernel
theorem zf216_265 : fetch 216 265 = some (.iastore, 1) := by decide +kernel
theorem zf216_266 : fetch 216 266 = some (.iinc 3 1, 3) := by decide +kernel
theorem zf216_269 : fetch 216 269 = some (.goto (-21), 3) := by decide +kernel
theorem zf247_2 : fetch 247 2 = some (.iload_n 2, 1) := by decide +kernel
theorem zf247_3 : fetch 247 3 = some (.aload_n 0, 1) := by decide +kernel
theorem zf247_4 : fetch 247 4 = some (.getfield 297, 3) := by decide +kernel
theorem zf247_7 : fetch 247 7 = some (.if_icmp .ge 31, 3) := by decide +kernel
theorem zf247_38 : fetch 247 38 = some (.aload_n 1, 1) := by decide +kernel
theorem zf247_39 : fetch 247 39 = some (.bipush 35, 2) := by decide +kernel
theorem zf247_41 : fetch 247 41 = some (.dup2, 1) := by decide +kernel
theorem zf247_42 : fetch 247 42 = some (.iaload, 1) := by decide +kernel
theorem zf247_43 : fetch 247 43 = some (.iconst 1, 1) := by decide +kernel
theorem zf247_44 : fetch 247 44 = some (.iadd, 1) := by decide +kernel
theorem zf247_45 : fetch 247 45 = some (.iastore, 1) := by decide +kernel
theorem zf247_46 : fetch 247 46 = some (.iconst 0, 1) := by decide +kernel
theorem zf247_47 : fetch 247 47 = some (.istore_n 2, 1) := by decide +kernel
theorem zf247_10 : fetch 247 10 = some (.aload_n 1, 1) := by decide +kernel
theorem zf247_11 : fetch 247 11 = some (.iload_n 2, 1) := by decide +kernel
theorem zf247_12 : fetch 247 12 = some (.invokestatic 300, 3) := by decide +kernel
theorem zf247_15 : fetch 247 15 = some (.iconst 2, 1) := by decide +kernel
theorem zf247_16 : fetch 247 16 = some (.iadd, 1) := by decide +kernel
theorem zf247_17 : fetch 247 17 = some (.iconst 0, 1) := by decide +kernel
theorem zf247_18 : fetch 247 18 = some (.aload_n 1, 1) := by decide +kernel
theorem zf247_19 : fetch 247 19 = some (.iload_n 2, 1) := by decide +kernel
theorem zf247_20 : fetch 247 20 = some (.invokestatic 300, 3) := by decide +kernel
theorem zf247_23 : fetch 247 23 = some (.iconst 2, 1) := by decide +kernel
theorem zf247_24 : fetch 247 24 = some (.iadd, 1) := by decide +kernel
theorem zf247_25 : fetch 247 25 = some (.iaload, 1) := by decide +kernel
theorem zf247_26 : fetch 247 26 = some (.iconst 1, 1) := by decide +kernel
theorem zf247_27 : fetch 247 27 = some (.isub, 1) := by decide +kernel
theorem zf247_28 : fetch 247 28 = some (.invokestatic 320, 3) := by decide +kernel
theorem zf247_31 : fetch 247 31 = some (.iastore, 1) := by decide +kernel
theorem zf247_32 : fetch 247 32 = some (.iinc 2 1, 3) := by decide +kernel
theorem zf247_35 : fetch 247 35 = some (.goto (-33), 3) := by decide +kernel
theorem zf250_0 : fetch 250 0 = some (.iconst 0, 1) := by decide +kernel
theorem zf250_1 : fetch 250 1 = some (.istore_n 3, 1) := by decide +kernel
theorem zf250_2 : fetch 250 2 = some (.iconst 0, 1) := by decide +kernel
theorem zf250_3 : fetch 250 3 = some (.istore 4, 2) := by decide +kernel
theorem zf258_0 : fetch 258 0 = some (.aload_n 0, 1) := by decide +kernel
theorem zf258_1 : fetch 258 1 = some (.getfield 55, 3) := by decide +kernel
theorem zf258_4 : fetch 258 4 = some (.iload_n 1, 1) := by decide +kernel
theorem zf258_5 : fetch 258 5 = some (.iaload, 1) := by decide +kernel
theorem zf258_6 : fetch 258 6 = some (.iconst 1, 1) := by decide +kernel
theorem zf258_7 : fetch 258 7 = some (.if_icmp .ne 14, 3) := by decide +kernel
theorem zf258_21 : fetch 258 21 = some (.iconst 1, 1) := by decide +kernel
theorem zf258_22 : fetch 258 22 = some (.ireturn, 1) := by decide +kernel
theorem zf258_10 : fetch 258 10 = some (.aload_n 0, 1) := by decide +kernel
theorem zf258_11 : fetch 258 11 = some (.getfield 55, 3) := by decide +kernel
theorem zf258_14 : fetch 258 14 = some (.iload_n 1, 1) := by decide +kernel
theorem zf258_15 : fetch 258 15 = some (.iconst 1, 1) := by decide +kernel
theorem zf258_16 : fetch 258 16 = some (.iadd, 1) := by decide +kernel
theorem zf258_17 : fetch 258 17 = some (.iaload, 1) := by decide +kernel
theorem zf258_18 : fetch 258 18 = some (.goto 4, 3) := by decide +kernel
theorem zf259_0 : fetch 259 0 = some (.aload_n 0, 1) := by decide +kernel
theorem zf259_1 : fetch 259 1 = some (.getfield 55, 3) := by decide +kernel
theorem zf259_4 : fetch 259 4 = some (.iload_n 2, 1) := by decide +kernel
theorem zf259_5 : fetch 259 5 = some (.iconst 1, 1) := by decide +kernel
theorem zf259_6 : fetch 259 6 = some (.iadd, 1) := by decide +kernel
theorem zf259_7 : fetch 259 7 = some (.iaload, 1) := by decide +kernel
theorem zf259_8 : fetch 259 8 = some (.istore_n 3, 1) := by decide +kernel
theorem zf259_9 : fetch 259 9 = some (.aload_n 0, 1) := by decide +kernel
theorem zf259_10 : fetch 259 10 = some (.getfield 55, 3) := by decide +kernel
theorem zf259_13 : fetch 259 13 = some (.iload_n 2, 1) := by decide +kernel
theorem zf259_14 : fetch 259 14 = some (.iconst 2, 1) := by decide +kernel
theorem zf259_15 : fetch 259 15 = some (.iadd, 1) := by decide +kernel
theorem zf259_16 : fetch 259 16 = some (.iaload, 1) := by decide +kernel
theorem zf259_17 : fetch 259 17 = some (.istore 4, 2) := by decide +kernel
theorem zf259_19 : fetch 259 19 = some (.aload_n 0, 1) := by decide +kernel
theorem zf259_20 : fetch 259 20 = some (.getfield 55, 3) := by decide +kernel
theorem zf259_23 : fetch 259 23 = some (.iload_n 2, 1) := by decide +kernel
theorem zf259_24 : fetch 259 24 = some (.iaload, 1) := by decide +kernel
theorem zf259_25 : fetch 259 25 = some (.tableswitch 72 0 2 #[27, 54, 62], 27) := by decide +kernel
theorem zf259_52 : fetch 259 52 = some (.aload_n 0, 1) := by decide +kernel
theorem zf259_53 : fetch 259 53 = some (.aload_n 1, 1) := by decide +kernel
theorem zf259_54 : fetch 259 54 = some (.iload_n 3, 1) := by decide +kernel
theorem zf259_55 : fetch 259 55 = some (.aload_n 0, 1) := by decide +kernel
theorem zf259_56 : fetch 259 56 = some (.getfield 55, 3) := by decide +kernel
theorem zf259_59 : fetch 259 59 = some (.iload_n 2, 1) := by decide +kernel
theorem zf259_60 : fetch 259 60 = some (.iconst 3, 1) := by decide +kernel
theorem zf259_61 : fetch 259 61 = some (.iadd, 1) := by decide +kernel
theorem zf259_62 : fetch 259 62 = some (.iaload, 1) := by decide +kernel
theorem zf259_63 : fetch 259 63 = some (.iload 4, 2) := by decide +kernel
theorem zf259_65 : fetch 259 65 = some (.aload_n 0, 1) := by decide +kernel
theorem zf259_66 : fetch 259 66 = some (.aload_n 1, 1) := by decide +kernel
theorem zf259_67 : fetch 259 67 = some (.iload_n 3, 1) := by decide +kernel
theorem zf259_68 : fetch 259 68 = some (.invokevirtual 417, 3) := by decide +kernel
theorem zf259_71 : fetch 259 71 = some (.invokevirtual 381, 3) := by decide +kernel
theorem zf259_74 : fetch 259 74 = some (.istore 5, 2) := by decide +kernel
theorem zf259_76 : fetch 259 76 = some (.goto 34, 3) := by decide +kernel
theorem zf259_110 : fetch 259 110 = some (.return_, 1) := by decide +kernel
theorem zf259_79 : fetch 259 79 = some (.aload_n 0, 1) := by decide +kernel
theorem zf259_80 : fetch 259 80 = some (.aload_n 1, 1) := by decide +kernel
theorem zf259_81 : fetch 259 81 = some (.invokevirtual 402, 3) := by decide +kernel
theorem zf259_84 : fetch 259 84 = some (.goto 26, 3) := by decide +kernel
theorem zf259_87 : fetch 259 87 = some (.aload_n 1, 1) := by decide +kernel
theorem zf259_88 : fetch 259 88 = some (.iload_n 3, 1) := by decide +kernel
theorem zf259_89 : fetch 259 89 = some (.iload 4, 2) := by decide +kernel
theorem zf259_91 : fetch 259 91 = some (.invokestatic 395, 3) := by decide +kernel
theorem zf259_94 : fetch 259 94 = some (.goto 16, 3) := by decide +kernel
theorem zf259_97 : fetch 259 97 = some (.aload_n 1, 1) := by decide +kernel
theorem zf259_98 : fetch 259 98 = some (.bipush 8, 2) := by decide +kernel
theorem zf259_100 : fetch 259 100 = some (.iload_n 3, 1) := by decide +kernel
theorem zf259_101 : fetch 259 101 = some (.iadd, 1) := by decide +kernel
theorem zf259_102 : fetch 259 102 = some (.dup2, 1) := by decide +kernel
theorem zf259_103 : fetch 259 103 = some (.iaload, 1) := by decide +kernel
theorem zf259_104 : fetch 259 104 = some (.iconst 1, 1) := by decide +kernel
theorem zf259_105 : fetch 259 105 = some (.iload 4, 2) := by decide +kernel
theorem zf259_107 : fetch 259 107 = some (.ishl, 1) := by decide +kernel
theorem zf259_108 : fetch 259 108 = some (.ior, 1) := by decide +kernel
theorem zf259_109 : fetch 259 109 = some (.iastore, 1) := by decide +kernel
theorem zf233_0 : fetch 233 0 = some (.bipush 6, 2) := by decide +kernel
theorem zf233_2 : fetch 233 2 = some (.iload_n 3, 1) := by decide +kernel
theorem zf233_3 : fetch 233 3 = some (.imul, 1) := by decide +kernel
theorem zf233_4 : fetch 233 4 = some (.aload_n 0, 1) := by decide +kernel
theorem zf233_5 : fetch 233 5 = some (.iload_n 1, 1) := by decide +kernel
theorem zf233_6 : fetch 233 6 = some (.iconst 0, 1) := by decide +kernel
theorem zf233_7 : fetch 233 7 = some (.invokevirtual 315, 3) := by decide +kernel
theorem zf233_10 : fetch 233 10 = some (.idiv, 1) := by decide +kernel
theorem zf233_11 : fetch 233 11 = some (.aload_n 0, 1) := by decide +kernel
theorem zf233_12 : fetch 233 12 = some (.getfield 43, 3) := by decide +kernel
theorem zf233_15 : fetch 233 15 = some (.iconst 3, 1) := by decide +kernel
theorem zf233_16 : fetch 233 16 = some (.iload_n 2, 1) := by decide +kernel
theorem zf233_17 : fetch 233 17 = some (.imul, 1) := by decide +kernel
theorem zf233_18 : fetch 233 18 = some (.iconst 1, 1) := by decide +kernel
theorem zf233_19 : fetch 233 19 = some (.iadd, 1) := by decide +kernel
theorem zf233_20 : fetch 233 20 = some (.iaload, 1) := by decide +kernel
theorem zf233_21 : fetch 233 21 = some (.iadd, 1) := by decide +kernel
theorem zf233_22 : fetch 233 22 = some (.iload 4, 2) := by decide +kernel
theorem zf233_24 : fetch 233 24 = some (.iadd, 1) := by decide +kernel
theorem zf233_25 : fetch 233 25 = some (.iload 5, 2) := by decide +kernel
theorem zf233_27 : fetch 233 27 = some (.isub, 1) := by decide +kernel
theorem zf233_28 : fetch 233 28 = some (.istore 6, 2) := by decide +kernel
theorem zf233_30 : fetch 233 30 = some (.aload_n 0, 1) := by decide +kernel
theorem zf233_31 : fetch 233 31 = some (.getfield 67, 3) := by decide +kernel
theorem zf233_34 : fetch 233 34 = some (.iconst (-1), 1) := by decide +kernel
theorem zf233_35 : fetch 233 35 = some (.if_icmp .eq 103, 3) := by decide +kernel
theorem zf233_138 : fetch 233 138 = some (.iconst 0, 1) := by decide +kernel
theorem zf233_139 : fetch 233 139 = some (.bipush 60, 2) := by decide +kernel
theorem zf233_141 : fetch 233 141 = some (.iload 6, 2) := by decide +kernel
theorem zf233_143 : fetch 233 143 = some (.invokestatic 318, 3) := by decide +kernel
theorem zf233_146 : fetch 233 146 = some (.invokestatic 320, 3) := by decide +kernel
theorem zf233_149 : fetch 233 149 = some (.ireturn, 1) := by decide +kernel
theorem zf233_38 : fetch 233 38 = some (.aload_n 0, 1) := by decide +kernel
theorem zf233_39 : fetch 233 39 = some (.getfield 20, 3) := by decide +kernel
theorem zf233_42 : fetch 233 42 = some (.bipush 112, 2) := by decide +kernel
theorem zf233_44 : fetch 233 44 = some (.iload_n 3, 1) := by decide +kernel
theorem zf233_45 : fetch 233 45 = some (.iastore, 1) := by decide +kernel
theorem zf233_46 : fetch 233 46 = some (.aload_n 0, 1) := by decide +kernel
theorem zf233_47 : fetch 233 47 = some (.getfield 20, 3) := by decide +kernel
theorem zf233_50 : fetch 233 50 = some (.bipush 109, 2) := by decide +kernel
theorem zf233_52 : fetch 233 52 = some (.aload_n 0, 1) := by decide +kernel
theorem zf233_53 : fetch 233 53 = some (.iload_n 1, 1) := by decide +kernel
theorem zf233_54 : fetch 233 54 = some (.iconst 0, 1) := by decide +kernel
theorem zf233_55 : fetch 233 55 = some (.invokevirtual 315, 3) := by decide +kernel
theorem zf233_58 : fetch 233 58 = some (.iastore, 1) := by decide +kernel
theorem zf233_59 : fetch 233 59 = some (.aload_n 0, 1) := by decide +kernel
theorem zf233_60 : fetch 233 60 = some (.getfield 20, 3) := by decide +kernel
theorem zf233_63 : fetch 233 63 = some (.bipush 119, 2) := by decide +kernel
theorem zf233_65 : fetch 233 65 = some (.iload 4, 2) := by decide +kernel
theorem zf233_67 : fetch 233 67 = some (.iastore, 1) := by decide +kernel
theorem zf233_68 : fetch 233 68 = some (.aload_n 0, 1) := by decide +kernel
theorem zf233_69 : fetch 233 69 = some (.getfield 20, 3) := by decide +kernel
theorem zf233_72 : fetch 233 72 = some (.bipush 104, 2) := by decide +kernel
theorem zf233_74 : fetch 233 74 = some (.aload_n 0, 1) := by decide +kernel
theorem zf233_75 : fetch 233 75 = some (.getfield 43, 3) := by decide +kernel
theorem zf233_78 : fetch 233 78 = some (.iconst 3, 1) := by decide +kernel
theorem zf233_79 : fetch 233 79 = some (.iload_n 2, 1) := by decide +kernel
theorem zf233_80 : fetch 233 80 = some (.imul, 1) := by decide +kernel
theorem zf233_81 : fetch 233 81 = some (.iconst 1, 1) := by decide +kernel
theorem zf233_82 : fetch 233 82 = some (.iadd, 1) := by decide +kernel
theorem zf233_83 : fetch 233 83 = some (.iaload, 1) := by decide +kernel
theorem zf233_84 : fetch 233 84 = some (.iastore, 1) := by decide +kernel
theorem zf233_85 : fetch 233 85 = some (.aload_n 0, 1) := by decide +kernel
theorem zf233_86 : fetch 233 86 = some (.getfield 20, 3) := by decide +kernel
theorem zf233_89 : fetch 233 89 = some (.bipush 110, 2) := by decide +kernel
theorem zf233_91 : fetch 233 91 = some (.aload_n 0, 1) := by decide +kernel
theorem zf233_92 : fetch 233 92 = some (.iload_n 1, 1) := by decide +kernel
theorem zf233_93 : fetch 233 93 = some (.iconst 1, 1) := by decide +kernel
theorem zf233_94 : fetch 233 94 = some (.invokevirtual 315, 3) := by decide +kernel
theorem zf233_97 : fetch 233 97 = some (.iastore, 1) := by decide +kernel
theorem zf233_98 : fetch 233 98 = some (.aload_n 0, 1) := by decide +kernel
theorem zf233_99 : fetch 233 99 = some (.getfield 20, 3) := by decide +kernel
theorem zf233_102 : fetch 233 102 = some (.bipush 100, 2) := by decide +kernel
theorem zf233_104 : fetch 233 104 = some (.iload 5, 2) := by decide +kernel
theorem zf233_106 : fetch 233 106 = some (.iastore, 1) := by decide +kernel
theorem zf233_107 : fetch 233 107 = some (.aload_n 0, 1) := by decide +kernel
theorem zf233_108 : fetch 233 108 = some (.aload_n 0, 1) := by decide +kernel
theorem zf233_109 : fetch 233 109 = some (.getfield 13, 3) := by decide +kernel
theorem zf233_112 : fetch 233 112 = some (.sipush 240, 3) := by decide +kernel
theorem zf233_115 : fetch 233 115 = some (.aload_n 0, 1) := by decide +kernel
theorem zf233_116 : fetch 233 116 = some (.getfield 67, 3) := by decide +kernel
theorem zf233_119 : fetch 233 119 = some (.imul, 1) := by decide +kernel
theorem zf233_120 : fetch 233 120 = some (.aload_n 0, 1) := by decide +kernel
theorem zf233_121 : fetch 233 121 = some (.getfield 16, 3) := by decide +kernel
theorem zf233_124 : fetch 233 124 = some (.aload_n 0, 1) := by decide +kernel
theorem zf233_125 : fetch 233 125 = some (.getfield 67, 3) := by decide +kernel
theorem zf233_128 : fetch 233 128 = some (.iaload, 1) := by decide +kernel
theorem zf233_129 : fetch 233 129 = some (.invokevirtual 280, 3) := by decide +kernel
theorem zf233_132 : fetch 233 132 = some (.aload_n 0, 1) := by decide +kernel
theorem zf233_133 : fetch 233 133 = some (.getfield 204, 3) := by decide +kernel
theorem zf233_136 : fetch 233 136 = some (.istore 6, 2) := by decide +kernel
theorem zf236_4 : fetch 236 4 = some (.iload_n 3, 1) := by decide +kernel
theorem zf236_5 : fetch 236 5 = some (.aload_n 0, 1) := by decide +kernel
theorem zf236_6 : fetch 236 6 = some (.getfield 294, 3) := by decide +kernel
theorem zf236_9 : fetch 236 9 = some (.if_icmp .ge 38, 3) := by decide +kernel
theorem zf236_47 : fetch 236 47 = some (.iload_n 2, 1) := by decide +kernel
theorem zf236_48 : fetch 236 48 = some (.ireturn, 1) := by decide +kernel
theorem zf236_12 : fetch 236 12 = some (.aload_n 0, 1) := by decide +kernel
theorem zf236_13 : fetch 236 13 = some (.iload_n 3, 1) := by decide +kernel
theorem zf236_14 : fetch 236 14 = some (.invokevirtual 326, 3) := by decide +kernel
theorem zf236_17 : fetch 236 17 = some (.iload_n 1, 1) := by decide +kernel
theorem zf236_18 : fetch 236 18 = some (.isub, 1) := by decide +kernel
theorem zf236_19 : fetch 236 19 = some (.invokestatic 333, 3) := by decide +kernel
theorem zf236_22 : fetch 236 22 = some (.aload_n 0, 1) := by decide +kernel
theorem zf236_23 : fetch 236 23 = some (.iload_n 2, 1) := by decide +kernel
theorem zf236_24 : fetch 236 24 = some (.invokevirtual 326, 3) := by decide +kernel
theorem zf236_27 : fetch 236 27 = some (.iload_n 1, 1) := by decide +kernel
theorem zf236_28 : fetch 236 28 = some (.isub, 1) := by decide +kernel
theorem zf236_29 : fetch 236 29 = some (.invokestatic 333, 3) := by decide +kernel
theorem zf236_32 : fetch 236 32 = some (.if_icmp .ge 7, 3) := by decide +kernel
theorem zf236_39 : fetch 236 39 = some (.iload_n 2, 1) := by decide +kernel
theorem zf236_40 : fetch 236 40 = some (.istore_n 2, 1) := by decide +kernel
theorem zf236_41 : fetch 236 41 = some (.iinc 3 1, 3) := by decide +kernel
theorem zf236_44 : fetch 236 44 = some (.goto (-40), 3) := by decide +kernel
theorem zf236_35 : fetch 236 35 = some (.iload_n 3, 1) := by decide +kernel
theorem zf236_36 : fetch 236 36 = some (.goto 4, 3) := by decide +kernel
theorem zf264_28 : fetch 264 28 = some (.iload_n 2, 1) := by decide +kernel
theorem zf264_29 : fetch 264 29 = some (.aload_n 0, 1) := by decide +kernel
theorem zf264_30 : fetch 264 30 = some (.getfield 294, 3) := by decide +kernel
theorem zf264_33 : fetch 264 33 = some (.if_icmp .ge 118, 3) := by decide +kernel
theorem zf264_151 : fetch 264 151 = some (.return_, 1) := by decide +kernel
theorem zf264_36 : fetch 264 36 = some (.bipush 20, 2) := by decide +kernel
theorem zf264_38 : fetch 264 38 = some (.istore_n 3, 1) := by decide +kernel
theorem zf268_36 : fetch 268 36 = some (.iload_n 2, 1) := by decide +kernel
theorem zf268_37 : fetch 268 37 = some (.iload_n 3, 1) := by decide +kernel
theorem zf268_38 : fetch 268 38 = some (.if_icmp .ne 50, 3) := by decide +kernel
theorem zf268_88 : fetch 268 88 = some (.iconst 0, 1) := by decide +kernel
theorem zf268_89 : fetch 268 89 = some (.istore 8, 2) := by decide +kernel
theorem zf268_41 : fetch 268 41 = some (.aload_n 0, 1) := by decide +kernel
theorem zf268_42 : fetch 268 42 = some (.getfield 450, 3) := by decide +kernel
theorem zf268_45 : fetch 268 45 = some (.iload 5, 2) := by decide +kernel
theorem zf268_47 : fetch 268 47 = some (.if_icmp .ne 22, 3) := by decide +kernel
theorem zf268_69 : fetch 268 69 = some (.aload_n 0, 1) := by decide +kernel
theorem zf268_70 : fetch 268 70 = some (.iload 5, 2) := by decide +kernel
theorem zf268_72 : fetch 268 72 = some (.putfield 450, 3) := by decide +kernel
theorem zf268_75 : fetch 268 75 = some (.aload_n 0, 1) := by decide +kernel
theorem zf268_76 : fetch 268 76 = some (.iload 6, 2) := by decide +kernel
theorem zf268_78 : fetch 268 78 = some (.putfield 453, 3) := by decide +kernel
theorem zf268_81 : fetch 268 81 = some (.aload_n 0, 1) := by decide +kernel
theorem zf268_82 : fetch 268 82 = some (.iload 7, 2) := by decide +kernel
theorem zf268_84 : fetch 268 84 = some (.putfield 456, 3) := by decide +kernel
theorem zf268_87 : fetch 268 87 = some (.return_, 1) := by decide +kernel
theorem zf268_50 : fetch 268 50 = some (.aload_n 0, 1) := by decide +kernel
theorem zf268_51 : fetch 268 51 = some (.getfield 453, 3) := by decide +kernel
theorem zf268_54 : fetch 268 54 = some (.iload 6, 2) := by decide +kernel
theorem zf268_56 : fetch 268 56 = some (.if_icmp .ne 13, 3) := by decide +kernel
theorem zf268_59 : fetch 268 59 = some (.iload 7, 2) := by decide +kernel
theorem zf268_61 : fetch 268 61 = some (.aload_n 0, 1) := by decide +kernel
theorem zf268_62 : fetch 268 62 = some (.getfield 456, 3) := by decide +kernel
theorem zf268_65 : fetch 268 65 = some (.if_icmp .lt 4, 3) := by decide +kernel
theorem zf268_68 : fetch 268 68 = some (.return_, 1) := by decide +kernel
theorem zf272_106 : fetch 272 106 = some (.iload 6, 2) := by decide +kernel
theorem zf272_108 : fetch 272 108 = some (.aload_n 0, 1) := by decide +kernel
theorem zf272_109 : fetch 272 109 = some (.getfield 297, 3) := by decide +kernel
theorem zf272_112 : fetch 272 112 = some (.bipush 10, 2) := by decide +kernel
theorem zf272_114 : fetch 272 114 = some (.imul, 1) := by decide +kernel
theorem zf272_115 : fetch 272 115 = some (.if_icmp .ge 72, 3) := by decide +kernel
theorem zf272_187 : fetch 272 187 = some (.iinc 5 1, 3) := by decide +kernel
theorem zf272_190 : fetch 272 190 = some (.goto (-93), 3) := by decide +kernel
theorem zf272_118 : fetch 272 118 = some (.iload 6, 2) := by decide +kernel
theorem zf272_120 : fetch 272 120 = some (.bipush 10, 2) := by decide +kernel
theorem zf272_122 : fetch 272 122 = some (.irem, 1) := by decide +kernel
theorem zf272_123 : fetch 272 123 = some (.istore 7, 2) := by decide +kernel
theorem zf272_125 : fetch 272 125 = some (.iload 7, 2) := by decide +kernel
theorem zf272_127 : fetch 272 127 = some (.aload_n 0, 1) := by decide +kernel
theorem zf272_128 : fetch 272 128 = some (.getfield 294, 3) := by decide +kernel
theorem zf272_131 : fetch 272 131 = some (.if_icmp .ge 50, 3) := by decide +kernel
theorem zf272_181 : fetch 272 181 = some (.iinc 6 1, 3) := by decide +kernel
theorem zf272_184 : fetch 272 184 = some (.goto (-78), 3) := by decide +kernel
theorem zf272_134 : fetch 272 134 = some (.aload_n 0, 1) := by decide +kernel
theorem zf272_135 : fetch 272 135 = some (.aload_n 0, 1) := by decide +kernel
theorem zf272_136 : fetch 272 136 = some (.getfield 61, 3) := by decide +kernel
theorem zf272_139 : fetch 272 139 = some (.iload 6, 2) := by decide +kernel
theorem zf272_141 : fetch 272 141 = some (.bipush 10, 2) := by decide +kernel
theorem zf272_143 : fetch 272 143 = some (.idiv, 1) := by decide +kernel
theorem zf272_144 : fetch 272 144 = some (.invokevirtual 342, 3) := by decide +kernel
theorem zf272_147 : fetch 272 147 = some (.ifCond .eq 34, 3) := by decide +kernel
theorem zf272_150 : fetch 272 150 = some (.aload_n 0, 1) := by decide +kernel
theorem zf272_151 : fetch 272 151 = some (.iload 6, 2) := by decide +kernel
theorem zf272_153 : fetch 272 153 = some (.bipush 10, 2) := by decide +kernel
theorem zf272_155 : fetch 272 155 = some (.idiv, 1) := by decide +kernel
theorem zf272_156 : fetch 272 156 = some (.iload 7, 2) := by decide +kernel
theorem zf272_158 : fetch 272 158 = some (.iload 4, 2) := by decide +kernel
theorem zf272_160 : fetch 272 160 = some (.iload_n 2, 1) := by decide +kernel
theorem zf272_161 : fetch 272 161 = some (.iload 5, 2) := by decide +kernel
theorem zf272_163 : fetch 272 163 = some (.invokevirtual 474, 3) := by decide +kernel
theorem zf272_166 : fetch 272 166 = some (.ifCond .eq 15, 3) := by decide +kernel
theorem zf272_169 : fetch 272 169 = some (.iload_n 3, 1) := by decide +kernel
theorem zf272_170 : fetch 272 170 = some (.ifCond .ne 8, 3) := by decide +kernel
theorem zf272_178 : fetch 272 178 = some (.iload 6, 2) := by decide +kernel
theorem zf272_180 : fetch 272 180 = some (.ireturn, 1) := by decide +kernel
theorem zf272_173 : fetch 272 173 = some (.iload 5, 2) := by decide +kernel
theorem zf272_175 : fetch 272 175 = some (.goto 5, 3) := by decide +kernel
theorem zf279_10 : fetch 279 10 = some (.iload_n 2, 1) := by decide +kernel
theorem zf279_11 : fetch 279 11 = some (.aload_n 0, 1) := by decide +kernel
theorem zf279_12 : fetch 279 12 = some (.getfield 303, 3) := by decide +kernel
theorem zf279_15 : fetch 279 15 = some (.if_icmp .ge 75, 3) := by decide +kernel
theorem zf279_90 : fetch 279 90 = some (.iconst 1, 1) := by decide +kernel
theorem zf279_91 : fetch 279 91 = some (.ireturn, 1) := by decide +kernel
theorem zf279_18 : fetch 279 18 = some (.aload_n 0, 1) := by decide +kernel
theorem zf279_19 : fetch 279 19 = some (.aload_n 0, 1) := by decide +kernel
theorem zf279_20 : fetch 279 20 = some (.getfield 80, 3) := by decide +kernel
theorem zf279_23 : fetch 279 23 = some (.iconst 5, 1) := by decide +kernel
theorem zf279_24 : fetch 279 24 = some (.iload_n 2, 1) := by decide +kernel
theorem zf279_25 : fetch 279 25 = some (.imul, 1) := by decide +kernel
theorem zf279_26 : fetch 279 26 = some (.iaload, 1) := by decide +kernel
theorem zf279_27 : fetch 279 27 = some (.aload_n 0, 1) := by decide +kernel
theorem zf279_28 : fetch 279 28 = some (.getfield 80, 3) := by decide +kernel
theorem zf279_31 : fetch 279 31 = some (.iconst 5, 1) := by decide +kernel
theorem zf279_32 : fetch 279 32 = some (.iload_n 2, 1) := by decide +kernel
theorem zf279_33 : fetch 279 33 = some (.imul, 1) := by decide +kernel
theorem zf279_34 : fetch 279 34 = some (.iconst 1, 1) := by decide +kernel
theorem zf279_35 : fetch 279 35 = some (.iadd, 1) := by decide +kernel
theorem zf279_36 : fetch 279 36 = some (.iaload, 1) := by decide +kernel
theorem zf279_37 : fetch 279 37 = some (.aload_n 0, 1) := by decide +kernel
theorem zf279_38 : fetch 279 38 = some (.getfield 80, 3) := by decide +kernel
theorem zf279_41 : fetch 279 41 = some (.iconst 5, 1) := by decide +kernel
theorem zf279_42 : fetch 279 42 = some (.iload_n 2, 1) := by decide +kernel
theorem zf279_43 : fetch 279 43 = some (.imul, 1) := by decide +kernel
theorem zf279_44 : fetch 279 44 = some (.iconst 2, 1) := by decide +kernel
theorem zf279_45 : fetch 279 45 = some (.iadd, 1) := by decide +kernel
theorem zf279_46 : fetch 279 46 = some (.iaload, 1) := by decide +kernel
theorem zf279_47 : fetch 279 47 = some (.aload_n 0, 1) := by decide +kernel
theorem zf279_48 : fetch 279 48 = some (.getfield 80, 3) := by decide +kernel
theorem zf279_51 : fetch 279 51 = some (.iconst 5, 1) := by decide +kernel
theorem zf279_52 : fetch 279 52 = some (.iload_n 2, 1) := by decide +kernel
theorem zf279_53 : fetch 279 53 = some (.imul, 1) := by decide +kernel
theorem zf279_54 : fetch 279 54 = some (.iconst 3, 1) := by decide +kernel
theorem zf279_55 : fetch 279 55 = some (.iadd, 1) := by decide +kernel
theorem zf279_56 : fetch 279 56 = some (.iaload, 1) := by decide +kernel
theorem zf279_57 : fetch 279 57 = some (.iload_n 1, 1) := by decide +kernel
theorem zf279_58 : fetch 279 58 = some (.bipush 10, 2) := by decide +kernel
theorem zf279_60 : fetch 279 60 = some (.irem, 1) := by decide +kernel
theorem zf279_61 : fetch 279 61 = some (.iload_n 1, 1) := by decide +kernel
theorem zf279_62 : fetch 279 62 = some (.bipush 10, 2) := by decide +kernel
theorem zf279_64 : fetch 279 64 = some (.idiv, 1) := by decide +kernel
theorem zf279_65 : fetch 279 65 = some (.iconst 0, 1) := by decide +kernel
theorem zf279_66 : fetch 279 66 = some (.invokevirtual 329, 3) := by decide +kernel
theorem zf279_69 : fetch 279 69 = some (.aload_n 0, 1) := by decide +kernel
theorem zf279_70 : fetch 279 70 = some (.getfield 80, 3) := by decide +kernel
theorem zf279_73 : fetch 279 73 = some (.iconst 5, 1) := by decide +kernel
theorem zf279_74 : fetch 279 74 = some (.iload_n 2, 1) := by decide +kernel
theorem zf279_75 : fetch 279 75 = some (.imul, 1) := by decide +kernel
theorem zf279_76 : fetch 279 76 = some (.iconst 4, 1) := by decide +kernel
theorem zf279_77 : fetch 279 77 = some (.iadd, 1) := by decide +kernel
theorem zf279_78 : fetch 279 78 = some (.iaload, 1) := by decide +kernel
theorem zf279_79 : fetch 279 79 = some (.if_icmp .eq 5, 3) := by decide +kernel
theorem zf279_84 : fetch 279 84 = some (.iinc 2 1, 3) := by decide +kernel
theorem zf279_87 : fetch 279 87 = some (.goto (-77), 3) := by decide +kernel
theorem zf279_82 : fetch 279 82 = some (.iconst 0, 1) := by decide +kernel
theorem zf279_83 : fetch 279 83 = some (.ireturn, 1) := by decide +kernel
theorem zf280_85 : fetch 280 85 = some (.iload 7, 2) := by decide +kernel
theorem zf280_87 : fetch 280 87 = some (.bipush 20, 2) := by decide +kernel
theorem zf280_89 : fetch 280 89 = some (.if_icmp .gt 154, 3) := by decide +kernel
theorem zf280_243 : fetch 280 243 = some (.iinc 6 1, 3) := by decide +kernel
theorem zf280_246 : fetch 280 246 = some (.goto (-170), 3) := by decide +kernel
theorem zf280_92 : fetch 280 92 = some (.iconst 0, 1) := by decide +kernel
theorem zf280_93 : fetch 280 93 = some (.istore 8, 2) := by decide +kernel
theorem zf282_19 : fetch 282 19 = some (.iload 5, 2) := by decide +kernel
theorem zf282_21 : fetch 282 21 = some (.aload_n 0, 1) := by decide +kernel
theorem zf282_22 : fetch 282 22 = some (.getfield 294, 3) := by decide +kernel
theorem zf282_25 : fetch 282 25 = some (.if_icmp .ge 60, 3) := by decide +kernel
theorem zf282_85 : fetch 282 85 = some (.iinc 4 1, 3) := by decide +kernel
theorem zf282_88 : fetch 282 88 = some (.goto (-81), 3) := by decide +kernel
theorem zf282_28 : fetch 282 28 = some (.iconst 0, 1) := by decide +kernel
theorem zf282_29 : fetch 282 29 = some (.istore 6, 2) := by decide +kernel
theorem zf292_0 : fetch 292 0 = some (.lconst 1, 1) := by decide +kernel
theorem zf292_1 : fetch 292 1 = some (.lstore_n 2, 1) := by decide +kernel
theorem zf292_2 : fetch 292 2 = some (.iconst 0, 1) := by decide +kernel
theorem zf292_3 : fetch 292 3 = some (.istore 4, 2) := by decide +kernel
theorem zf296_5 : fetch 296 5 = some (.iload_n 3, 1) := by decide +kernel
theorem zf296_6 : fetch 296 6 = some (.aload_n 0, 1) := by decide +kernel
theorem zf296_7 : fetch 296 7 = some (.getfield 294, 3) := by decide +kernel
theorem zf296_10 : fetch 296 10 = some (.if_icmp .ge 19, 3) := by decide +kernel
theorem zf296_29 : fetch 296 29 = some (.iload_n 2, 1) := by decide +kernel
theorem zf296_30 : fetch 296 30 = some (.ireturn, 1) := by decide +kernel
theorem zf296_13 : fetch 296 13 = some (.iload_n 2, 1) := by decide +kernel
theorem zf296_14 : fetch 296 14 = some (.aload_n 1, 1) := by decide +kernel
theorem zf296_15 : fetch 296 15 = some (.iconst 0, 1) := by decide +kernel
theorem zf296_16 : fetch 296 16 = some (.iload_n 3, 1) := by decide +kernel
theorem zf296_17 : fetch 296 17 = some (.iadd, 1) := by decide +kernel
theorem zf296_18 : fetch 296 18 = some (.iaload, 1) := by decide +kernel
theorem zf296_19 : fetch 296 19 = some (.invokestatic 318, 3) := by decide +kernel
theorem zf296_22 : fetch 296 22 = some (.istore_n 2, 1) := by decide +kernel
theorem zf296_23 : fetch 296 23 = some (.iinc 3 1, 3) := by decide +kernel
theorem zf296_26 : fetch 296 26 = some (.goto (-21), 3) := by decide +kernel
theorem zf7_0 : fetch 7 0 = some (.aload_n 0, 1) := by decide +kernel
theorem zf7_1 : fetch 7 1 = some (.getfield 18, 3) := by decide +kernel
theorem zf7_4 : fetch 7 4 = some (.invokevirtual 58, 3) := by decide +kernel
theorem zf7_7 : fetch 7 7 = some (.istore_n 1, 1) := by decide +kernel
theorem zf7_8 : fetch 7 8 = some (.iload_n 1, 1) := by decide +kernel
theorem zf7_9 : fetch 7 9 = some (.bipush 115, 2) := by decide +kernel
theorem zf7_11 : fetch 7 11 = some (.if_icmp .ne 43, 3) := by decide +kernel
theorem zf7_14 : fetch 7 14 = some (.aload_n 0, 1) := by decide +kernel
theorem zf7_15 : fetch 7 15 = some (.getfield 32, 3) := by decide +kernel
theorem zf7_18 : fetch 7 18 = some (.ifCond .ne 36, 3) := by decide +kernel
theorem zf7_21 : fetch 7 21 = some (.aload_n 0, 1) := by decide +kernel
theorem zf7_22 : fetch 7 22 = some (.getfield 18, 3) := by decide +kernel
theorem zf7_25 : fetch 7 25 = some (.dup, 1) := by decide +kernel
theorem zf7_26 : fetch 7 26 = some (.getfield 22, 3) := by decide +kernel
theorem zf7_29 : fetch 7 29 = some (.iconst 1, 1) := by decide +kernel
theorem zf7_30 : fetch 7 30 = some (.iadd, 1) := by decide +kernel
theorem zf7_31 : fetch 7 31 = some (.putfield 22, 3) := by decide +kernel
theorem zf7_34 : fetch 7 34 = some (.aload_n 0, 1) := by decide +kernel
theorem zf7_35 : fetch 7 35 = some (.iconst 1, 1) := by decide +kernel
theorem zf7_36 : fetch 7 36 = some (.putfield 32, 3) := by decide +kernel
theorem zf7_39 : fetch 7 39 = some (.aload_n 0, 1) := by decide +kernel
theorem zf7_40 : fetch 7 40 = some (.aload_n 0, 1) := by decide +kernel
theorem zf7_41 : fetch 7 41 = some (.getfield 12, 3) := by decide +kernel
theorem zf7_44 : fetch 7 44 = some (.getfield 46, 3) := by decide +kernel
theorem zf7_47 : fetch 7 47 = some (.iconst 0, 1) := by decide +kernel
theorem zf7_48 : fetch 7 48 = some (.iconst 0, 1) := by decide +kernel
theorem zf7_49 : fetch 7 49 = some (.iconst 4, 1) := by decide +kernel
theorem zf7_50 : fetch 7 50 = some (.invokevirtual 69, 3) := by decide +kernel
theorem zf7_53 : fetch 7 53 = some (.ireturn, 1) := by decide +kernel
theorem zf17_0 : fetch 17 0 = some (.aload_n 0, 1) := by decide +kernel
theorem zf17_1 : fetch 17 1 = some (.getfield 27, 3) := by decide +kernel
theorem zf17_4 : fetch 17 4 = some (.iconst 2, 1) := by decide +kernel
theorem zf17_5 : fetch 17 5 = some (.if_icmp .lt 11, 3) := by decide +kernel
theorem zf17_16 : fetch 17 16 = some (.iconst 0, 1) := by decide +kernel
theorem zf17_17 : fetch 17 17 = some (.ireturn, 1) := by decide +kernel
theorem zf17_8 : fetch 17 8 = some (.aload_n 0, 1) := by decide +kernel
theorem zf17_9 : fetch 17 9 = some (.getfield 31, 3) := by decide +kernel
theorem zf17_12 : fetch 17 12 = some (.iconst 1, 1) := by decide +kernel
theorem zf17_13 : fetch 17 13 = some (.if_icmp .ge 5, 3) := by decide +kernel
theorem zf17_18 : fetch 17 18 = some (.iconst 0, 1) := by decide +kernel
theorem zf17_19 : fetch 17 19 = some (.istore_n 1, 1) := by decide +kernel
theorem zf23_51 : fetch 23 51 = some (.istore_n 2, 1) := by decide +kernel
theorem zf23_52 : fetch 23 52 = some (.iload_n 2, 1) := by decide +kernel
theorem zf23_53 : fetch 23 53 = some (.ifCond .eq 13, 3) := by decide +kernel
theorem zf23_66 : fetch 23 66 = some (.iload_n 2, 1) := by decide +kernel
theorem zf23_67 : fetch 23 67 = some (.ifCond .eq 26, 3) := by decide +kernel
theorem zf23_70 : fetch 23 70 = some (.aload_n 0, 1) := by decide +kernel
theorem zf23_71 : fetch 23 71 = some (.getfield 17, 3) := by decide +kernel
theorem zf23_74 : fetch 23 74 = some (.invokevirtual 32, 3) := by decide +kernel
theorem zf23_77 : fetch 23 77 = some (.invokestatic 44, 3) := by decide +kernel
theorem zf23_80 : fetch 23 80 = some (.iconst (-1), 1) := by decide +kernel
theorem zf23_81 : fetch 23 81 = some (.if_icmp .ne 12, 3) := by decide +kernel
theorem zf23_84 : fetch 23 84 = some (.aload_n 0, 1) := by decide +kernel
theorem zf23_85 : fetch 23 85 = some (.bipush 13, 2) := by decide +kernel
theorem zf23_87 : fetch 23 87 = some (.iconst 0, 1) := by decide +kernel
theorem zf23_88 : fetch 23 88 = some (.invokevirtual 50, 3) := by decide +kernel
theorem zf23_91 : fetch 23 91 = some (.iconst 1, 1) := by decide +kernel
theorem zf23_92 : fetch 23 92 = some (.ireturn, 1) := by decide +kernel
theorem zf23_56 : fetch 23 56 = some (.aload_n 0, 1) := by decide +kernel
theorem zf23_57 : fetch 23 57 = some (.iconst 0, 1) := by decide +kernel
theorem zf23_58 : fetch 23 58 = some (.invokevirtual 40, 3) := by decide +kernel
theorem zf23_61 : fetch 23 61 = some (.ifCond .ne 5, 3) := by decide +kernel
theorem zf23_64 : fetch 23 64 = some (.iconst 0, 1) := by decide +kernel
theorem zf23_65 : fetch 23 65 = some (.ireturn, 1) := by decide +kernel
theorem zf40_0 : fetch 40 0 = some (.aload_n 0, 1) := by decide +kernel
theorem zf40_1 : fetch 40 1 = some (.iload_n 1, 1) := by decide +kernel
theorem zf40_2 : fetch 40 2 = some (.iload_n 2, 1) := by decide +kernel
theorem zf40_3 : fetch 40 3 = some (.invokevirtual 68, 3) := by decide +kernel
theorem zf40_6 : fetch 40 6 = some (.ifCond .ne 5, 3) := by decide +kernel
theorem zf40_11 : fetch 40 11 = some (.aload_n 0, 1) := by decide +kernel
theorem zf40_12 : fetch 40 12 = some (.getfield 20, 3) := by decide +kernel
theorem zf40_15 : fetch 40 15 = some (.iload_n 1, 1) := by decide +kernel
theorem zf40_16 : fetch 40 16 = some (.iconst 2, 1) := by decide +kernel
theorem zf40_17 : fetch 40 17 = some (.iadd, 1) := by decide +kernel
theorem zf40_18 : fetch 40 18 = some (.aload_n 0, 1) := by decide +kernel
theorem zf40_19 : fetch 40 19 = some (.getfield 23, 3) := by decide +kernel
theorem zf40_22 : fetch 40 22 = some (.iload_n 3, 1) := by decide +kernel
theorem zf40_23 : fetch 40 23 = some (.invokevirtual 72, 3) := by decide +kernel
theorem zf40_26 : fetch 40 26 = some (.iastore, 1) := by decide +kernel
theorem zf40_27 : fetch 40 27 = some (.aload_n 0, 1) := by decide +kernel
theorem zf40_28 : fetch 40 28 = some (.getfield 20, 3) := by decide +kernel
theorem zf40_31 : fetch 40 31 = some (.iload_n 1, 1) := by decide +kernel
theorem zf40_32 : fetch 40 32 = some (.iconst 2, 1) := by decide +kernel
theorem zf40_33 : fetch 40 33 = some (.iadd, 1) := by decide +kernel
theorem zf40_34 : fetch 40 34 = some (.iaload, 1) := by decide +kernel
theorem zf40_35 : fetch 40 35 = some (.iconst (-1), 1) := by decide +kernel
theorem zf40_36 : fetch 40 36 = some (.if_icmp .eq 7, 3) := by decide +kernel
theorem zf40_43 : fetch 40 43 = some (.iconst 0, 1) := by decide +kernel
theorem zf40_44 : fetch 40 44 = some (.ireturn, 1) := by decide +kernel
theorem zf40_39 : fetch 40 39 = some (.iconst 1, 1) := by decide +kernel
theorem zf40_40 : fetch 40 40 = some (.goto 4, 3) := by decide +kernel
theorem zf40_9 : fetch 40 9 = some (.iconst 0, 1) := by decide +kernel
theorem zf40_10 : fetch 40 10 = some (.ireturn, 1) := by decide +kernel
theorem zf41_0 : fetch 41 0 = some (.aload_n 0, 1) := by decide +kernel
theorem zf41_1 : fetch 41 1 = some (.getfield 20, 3) := by decide +kernel
theorem zf41_4 : fetch 41 4 = some (.iload_n 1, 1) := by decide +kernel
theorem zf41_5 : fetch 41 5 = some (.iload_n 2, 1) := by decide +kernel
theorem zf41_6 : fetch 41 6 = some (.iastore, 1) := by decide +kernel
theorem zf41_7 : fetch 41 7 = some (.aload_n 0, 1) := by decide +kernel
theorem zf41_8 : fetch 41 8 = some (.getfield 20, 3) := by decide +kernel
theorem zf41_11 : fetch 41 11 = some (.iload_n 1, 1) := by decide +kernel
theorem zf41_12 : fetch 41 12 = some (.iconst 1, 1) := by decide +kernel
theorem zf41_13 : fetch 41 13 = some (.iadd, 1) := by decide +kernel
theorem zf41_14 : fetch 41 14 = some (.aload_n 0, 1) := by decide +kernel
theorem zf41_15 : fetch 41 15 = some (.getfield 23, 3) := by decide +kernel
theorem zf41_18 : fetch 41 18 = some (.bipush 9, 2) := by decide +kernel
theorem zf41_20 : fetch 41 20 = some (.invokevirtual 72, 3) := by decide +kernel
theorem zf41_23 : fetch 41 23 = some (.iastore, 1) := by decide +kernel
theorem zf41_24 : fetch 41 24 = some (.aload_n 0, 1) := by decide +kernel
theorem zf41_25 : fetch 41 25 = some (.getfield 20, 3) := by decide +kernel
theorem zf41_28 : fetch 41 28 = some (.iload_n 1, 1) := by decide +kernel
theorem zf41_29 : fetch 41 29 = some (.iconst 2, 1) := by decide +kernel
theorem zf41_30 : fetch 41 30 = some (.iadd, 1) := by decide +kernel
theorem zf41_31 : fetch 41 31 = some (.iconst (-1), 1) := by decide +kernel
theorem zf41_32 : fetch 41 32 = some (.iastore, 1) := by decide +kernel
theorem zf41_33 : fetch 41 33 = some (.aload_n 0, 1) := by decide +kernel
theorem zf41_34 : fetch 41 34 = some (.getfield 20, 3) := by decide +kernel
theorem zf41_37 : fetch 41 37 = some (.iload_n 1, 1) := by decide +kernel
theorem zf41_38 : fetch 41 38 = some (.iconst 3, 1) := by decide +kernel
theorem zf41_39 : fetch 41 39 = some (.iadd, 1) := by decide +kernel
theorem zf41_40 : fetch 41 40 = some (.iconst (-1), 1) := by decide +kernel
theorem zf41_41 : fetch 41 41 = some (.iastore, 1) := by decide +kernel
theorem zf41_42 : fetch 41 42 = some (.aload_n 0, 1) := by decide +kernel
theorem zf41_43 : fetch 41 43 = some (.getfield 20, 3) := by decide +kernel
theorem zf41_46 : fetch 41 46 = some (.iload_n 1, 1) := by decide +kernel
theorem zf41_47 : fetch 41 47 = some (.iconst 1, 1) := by decide +kernel
theorem zf41_48 : fetch 41 48 = some (.iadd, 1) := by decide +kernel
theorem zf41_49 : fetch 41 49 = some (.iaload, 1) := by decide +kernel
theorem zf41_50 : fetch 41 50 = some (.iconst (-1), 1) := by decide +kernel
theorem zf41_51 : fetch 41 51 = some (.if_icmp .eq 7, 3) := by decide +kernel
theorem zf41_58 : fetch 41 58 = some (.iconst 0, 1) := by decide +kernel
theorem zf41_59 : fetch 41 59 = some (.ireturn, 1) := by decide +kernel
theorem zf41_54 : fetch 41 54 = some (.iconst 1, 1) := by decide +kernel
theorem zf41_55 : fetch 41 55 = some (.goto 4, 3) := by decide +kernel
theorem zf43_0 : fetch 43 0 = some (.aload_n 0, 1) := by decide +kernel
theorem zf43_1 : fetch 43 1 = some (.getfield 23, 3) := by decide +kernel
theorem zf43_4 : fetch 43 4 = some (.bipush 9, 2) := by decide +kernel
theorem zf43_6 : fetch 43 6 = some (.invokevirtual 72, 3) := by decide +kernel
theorem zf43_9 : fetch 43 9 = some (.istore_n 2, 1) := by decide +kernel
theorem zf43_10 : fetch 43 10 = some (.iload_n 2, 1) := by decide +kernel
theorem zf43_11 : fetch 43 11 = some (.iconst (-1), 1) := by decide +kernel
theorem zf43_12 : fetch 43 12 = some (.if_icmp .ne 5, 3) := by decide +kernel
theorem zf43_17 : fetch 43 17 = some (.aload_n 0, 1) := by decide +kernel
theorem zf43_18 : fetch 43 18 = some (.getfield 23, 3) := by decide +kernel
theorem zf43_21 : fetch 43 21 = some (.bipush 9, 2) := by decide +kernel
theorem zf43_23 : fetch 43 23 = some (.invokevirtual 72, 3) := by decide +kernel
theorem zf43_26 : fetch 43 26 = some (.istore_n 3, 1) := by decide +kernel
theorem zf43_27 : fetch 43 27 = some (.aload_n 0, 1) := by decide +kernel
theorem zf43_28 : fetch 43 28 = some (.getfield 20, 3) := by decide +kernel
theorem zf43_31 : fetch 43 31 = some (.iload_n 1, 1) := by decide +kernel
theorem zf43_32 : fetch 43 32 = some (.iconst 3, 1) := by decide +kernel
theorem zf43_33 : fetch 43 33 = some (.iadd, 1) := by decide +kernel
theorem zf43_34 : fetch 43 34 = some (.bipush 10, 2) := by decide +kernel
theorem zf43_36 : fetch 43 36 = some (.iload_n 2, 1) := by decide +kernel
theorem zf43_37 : fetch 43 37 = some (.imul, 1) := by decide +kernel
theorem zf43_38 : fetch 43 38 = some (.iload_n 3, 1) := by decide +kernel
theorem zf43_39 : fetch 43 39 = some (.iadd, 1) := by decide +kernel
theorem zf43_40 : fetch 43 40 = some (.iastore, 1) := by decide +kernel
theorem zf43_41 : fetch 43 41 = some (.iload_n 3, 1) := by decide +kernel
theorem zf43_42 : fetch 43 42 = some (.iconst (-1), 1) := by decide +kernel
theorem zf43_43 : fetch 43 43 = some (.if_icmp .eq 7, 3) := by decide +kernel
theorem zf43_50 : fetch 43 50 = some (.iconst 0, 1) := by decide +kernel
theorem zf43_51 : fetch 43 51 = some (.ireturn, 1) := by decide +kernel
theorem zf43_46 : fetch 43 46 = some (.iconst 1, 1) := by decide +kernel
theorem zf43_47 : fetch 43 47 = some (.goto 4, 3) := by decide +kernel
theorem zf43_15 : fetch 43 15 = some (.iconst 0, 1) := by decide +kernel
theorem zf43_16 : fetch 43 16 = some (.ireturn, 1) := by decide +kernel
theorem zf47_70 : fetch 47 70 = some (.iload_n 2, 1) := by decide +kernel
theorem zf47_71 : fetch 47 71 = some (.aload_n 1, 1) := by decide +kernel
theorem zf47_72 : fetch 47 72 = some (.getfield 46, 3) := by decide +kernel
theorem zf47_75 : fetch 47 75 = some (.if_icmp .ge 23, 3) := by decide +kernel
theorem zf47_98 : fetch 47 98 = some (.return_, 1) := by decide +kernel
theorem zf47_78 : fetch 47 78 = some (.aload_n 0, 1) := by decide +kernel
theorem zf47_79 : fetch 47 79 = some (.getfield 15, 3) := by decide +kernel
theorem zf47_82 : fetch 47 82 = some (.bipush 6, 2) := by decide +kernel
theorem zf47_84 : fetch 47 84 = some (.iload_n 2, 1) := by decide +kernel
theorem zf47_85 : fetch 47 85 = some (.iadd, 1) := by decide +kernel
theorem zf47_86 : fetch 47 86 = some (.aload_n 1, 1) := by decide +kernel
theorem zf47_87 : fetch 47 87 = some (.iload_n 2, 1) := by decide +kernel
theorem zf47_88 : fetch 47 88 = some (.invokevirtual 49, 3) := by decide +kernel
theorem zf47_91 : fetch 47 91 = some (.iastore, 1) := by decide +kernel
theorem zf47_92 : fetch 47 92 = some (.iinc 2 1, 3) := by decide +kernel
theorem zf47_95 : fetch 47 95 = some (.goto (-25), 3) := by decide +kernel
theorem zf52_0 : fetch 52 0 = some (.aload_n 0, 1) := by decide +kernel
theorem zf52_1 : fetch 52 1 = some (.getfield 15, 3) := by decide +kernel
theorem zf52_4 : fetch 52 4 = some (.iload_n 1, 1) := by decide +kernel
theorem zf52_5 : fetch 52 5 = some (.iconst 3, 1) := by decide +kernel
theorem zf52_6 : fetch 52 6 = some (.imul, 1) := by decide +kernel
theorem zf52_7 : fetch 52 7 = some (.iconst 2, 1) := by decide +kernel
theorem zf52_8 : fetch 52 8 = some (.iadd, 1) := by decide +kernel
theorem zf52_9 : fetch 52 9 = some (.iaload, 1) := by decide +kernel
theorem zf52_10 : fetch 52 10 = some (.ireturn, 1) := by decide +kernel
theorem zf100_60 : fetch 100 60 = some (.iload_n 2, 1) := by decide +kernel
theorem zf100_61 : fetch 100 61 = some (.iload_n 1, 1) := by decide +kernel
theorem zf100_62 : fetch 100 62 = some (.if_icmp .ge 34, 3) := by decide +kernel
theorem zf100_65 : fetch 100 65 = some (.aload_n 0, 1) := by decide +kernel
theorem zf100_66 : fetch 100 66 = some (.getfield 15, 3) := by decide +kernel
theorem zf100_69 : fetch 100 69 = some (.bipush 21, 2) := by decide +kernel
theorem zf100_71 : fetch 100 71 = some (.iload_n 2, 1) := by decide +kernel
theorem zf100_72 : fetch 100 72 = some (.iadd, 1) := by decide +kernel
theorem zf100_73 : fetch 100 73 = some (.bipush 9, 2) := by decide +kernel
theorem zf100_75 : fetch 100 75 = some (.aload_n 0, 1) := by decide +kernel
theorem zf100_76 : fetch 100 76 = some (.getfield 15, 3) := by decide +kernel
theorem zf100_79 : fetch 100 79 = some (.bipush 21, 2) := by decide +kernel
theorem zf100_81 : fetch 100 81 = some (.iload_n 2, 1) := by decide +kernel
theorem zf100_82 : fetch 100 82 = some (.iadd, 1) := by decide +kernel
theorem zf100_83 : fetch 100 83 = some (.iaload, 1) := by decide +kernel
theorem zf100_84 : fetch 100 84 = some (.iconst 1, 1) := by decide +kernel
theorem zf100_85 : fetch 100 85 = some (.iadd, 1) := by decide +kernel
theorem zf100_86 : fetch 100 86 = some (.invokestatic 64, 3) := by decide +kernel
theorem zf100_89 : fetch 100 89 = some (.iastore, 1) := by decide +kernel
theorem zf100_90 : fetch 100 90 = some (.iinc 2 1, 3) := by decide +kernel
theorem zf100_93 : fetch 100 93 = some (.goto (-33), 3) := by decide +kernel
theorem zf105_0 : fetch 105 0 = some (.aload_n 1, 1) := by decide +kernel
theorem zf105_1 : fetch 105 1 = some (.getfield 162, 3) := by decide +kernel
theorem zf105_4 : fetch 105 4 = some (.bipush 29, 2) := by decide +kernel
theorem zf105_6 : fetch 105 6 = some (.aload_n 1, 1) := by decide +kernel
theorem zf105_7 : fetch 105 7 = some (.getfield 162, 3) := by decide +kernel
theorem zf105_10 : fetch 105 10 = some (.bipush 6, 2) := by decide +kernel
theorem zf105_12 : fetch 105 12 = some (.iload_n 2, 1) := by decide +kernel
theorem zf105_13 : fetch 105 13 = some (.iadd, 1) := by decide +kernel
theorem zf105_14 : fetch 105 14 = some (.iaload, 1) := by decide +kernel
theorem zf105_15 : fetch 105 15 = some (.iadd, 1) := by decide +kernel
theorem zf105_16 : fetch 105 16 = some (.iaload, 1) := by decide +kernel
theorem zf105_17 : fetch 105 17 = some (.istore_n 3, 1) := by decide +kernel
theorem zf105_18 : fetch 105 18 = some (.iconst 0, 1) := by decide +kernel
theorem zf105_19 : fetch 105 19 = some (.istore 4, 2) := by decide +kernel
theorem zf105_21 : fetch 105 21 = some (.iconst 0, 1) := by decide +kernel
theorem zf105_22 : fetch 105 22 = some (.istore 5, 2) := by decide +kernel
theorem zf119_0 : fetch 119 0 = some (.aload_n 0, 1) := by decide +kernel
theorem zf119_1 : fetch 119 1 = some (.getfield 49, 3) := by decide +kernel
theorem zf119_4 : fetch 119 4 = some (.iload_n 2, 1) := by decide +kernel
theorem zf119_5 : fetch 119 5 = some (.iload_n 3, 1) := by decide +kernel
theorem zf119_6 : fetch 119 6 = some (.iconst 1, 1) := by decide +kernel
theorem zf119_7 : fetch 119 7 = some (.invokevirtual 314, 3) := by decide +kernel
theorem zf119_10 : fetch 119 10 = some (.istore 4, 2) := by decide +kernel
theorem zf119_12 : fetch 119 12 = some (.aload_n 0, 1) := by decide +kernel
theorem zf119_13 : fetch 119 13 = some (.getfield 49, 3) := by decide +kernel
theorem zf119_16 : fetch 119 16 = some (.iload_n 2, 1) := by decide +kernel
theorem zf119_17 : fetch 119 17 = some (.iload_n 3, 1) := by decide +kernel
theorem zf119_18 : fetch 119 18 = some (.iconst 2, 1) := by decide +kernel
theorem zf119_19 : fetch 119 19 = some (.invokevirtual 314, 3) := by decide +kernel
theorem zf119_22 : fetch 119 22 = some (.istore 5, 2) := by decide +kernel
theorem zf119_24 : fetch 119 24 = some (.aload_n 0, 1) := by decide +kernel
theorem zf119_25 : fetch 119 25 = some (.getfield 49, 3) := by decide +kernel
theorem zf119_28 : fetch 119 28 = some (.iload_n 2, 1) := by decide +kernel
theorem zf119_29 : fetch 119 29 = some (.iload_n 3, 1) := by decide +kernel
theorem zf119_30 : fetch 119 30 = some (.iconst 0, 1) := by decide +kernel
theorem zf119_31 : fetch 119 31 = some (.invokevirtual 314, 3) := by decide +kernel
theorem zf119_34 : fetch 119 34 = some (.tableswitch 89 0 2 #[26, 56, 70], 26) := by decide +kernel
theorem zf119_60 : fetch 119 60 = some (.aload_n 0, 1) := by decide +kernel
theorem zf119_61 : fetch 119 61 = some (.aload_n 1, 1) := by decide +kernel
theorem zf119_62 : fetch 119 62 = some (.iload 4, 2) := by decide +kernel
theorem zf119_64 : fetch 119 64 = some (.aload_n 0, 1) := by decide +kernel
theorem zf119_65 : fetch 119 65 = some (.getfield 49, 3) := by decide +kernel
theorem zf119_68 : fetch 119 68 = some (.iload_n 2, 1) := by decide +kernel
theorem zf119_69 : fetch 119 69 = some (.iload_n 3, 1) := by decide +kernel
theorem zf119_70 : fetch 119 70 = some (.iconst 3, 1) := by decide +kernel
theorem zf119_71 : fetch 119 71 = some (.invokevirtual 314, 3) := by decide +kernel
theorem zf119_74 : fetch 119 74 = some (.iload 5, 2) := by decide +kernel
theorem zf119_76 : fetch 119 76 = some (.aload_n 0, 1) := by decide +kernel
theorem zf119_77 : fetch 119 77 = some (.aload_n 1, 1) := by decide +kernel
theorem zf119_78 : fetch 119 78 = some (.iload 4, 2) := by decide +kernel
theorem zf119_80 : fetch 119 80 = some (.invokevirtual 300, 3) := by decide +kernel
theorem zf119_83 : fetch 119 83 = some (.invokevirtual 239, 3) := by decide +kernel
theorem zf119_86 : fetch 119 86 = some (.pop, 1) := by decide +kernel
theorem zf119_87 : fetch 119 87 = some (.goto 53, 3) := by decide +kernel
theorem zf119_140 : fetch 119 140 = some (.return_, 1) := by decide +kernel
theorem zf119_90 : fetch 119 90 = some (.aload_n 1, 1) := by decide +kernel
theorem zf119_91 : fetch 119 91 = some (.aload_n 0, 1) := by decide +kernel
theorem zf119_92 : fetch 119 92 = some (.getfield 19, 3) := by decide +kernel
theorem zf119_95 : fetch 119 95 = some (.getfield 119, 3) := by decide +kernel
theorem zf119_98 : fetch 119 98 = some (.invokevirtual 252, 3) := by decide +kernel
theorem zf119_101 : fetch 119 101 = some (.goto 39, 3) := by decide +kernel
theorem zf119_104 : fetch 119 104 = some (.aload_n 1, 1) := by decide +kernel
theorem zf119_105 : fetch 119 105 = some (.getfield 162, 3) := by decide +kernel
theorem zf119_108 : fetch 119 108 = some (.iconst 1, 1) := by decide +kernel
theorem zf119_109 : fetch 119 109 = some (.iload 4, 2) := by decide +kernel
theorem zf119_111 : fetch 119 111 = some (.iastore, 1) := by decide +kernel
theorem zf119_112 : fetch 119 112 = some (.aload_n 1, 1) := by decide +kernel
theorem zf119_113 : fetch 119 113 = some (.getfield 162, 3) := by decide +kernel
theorem zf119_116 : fetch 119 116 = some (.iconst 2, 1) := by decide +kernel
theorem zf119_117 : fetch 119 117 = some (.iload 5, 2) := by decide +kernel
theorem zf119_119 : fetch 119 119 = some (.iastore, 1) := by decide +kernel
theorem zf119_120 : fetch 119 120 = some (.goto 20, 3) := by decide +kernel
theorem zf119_123 : fetch 119 123 = some (.aload_n 1, 1) := by decide +kernel
theorem zf119_124 : fetch 119 124 = some (.getfield 162, 3) := by decide +kernel
theorem zf119_127 : fetch 119 127 = some (.bipush 29, 2) := by decide +kernel
theorem zf119_129 : fetch 119 129 = some (.iload 4, 2) := by decide +kernel
theorem zf119_131 : fetch 119 131 = some (.iadd, 1) := by decide +kernel
theorem zf119_132 : fetch 119 132 = some (.dup2, 1) := by decide +kernel
theorem zf119_133 : fetch 119 133 = some (.iaload, 1) := by decide +kernel
theorem zf119_134 : fetch 119 134 = some (.iconst 1, 1) := by decide +kernel
theorem zf119_135 : fetch 119 135 = some (.iload 5, 2) := by decide +kernel
theorem zf119_137 : fetch 119 137 = some (.ishl, 1) := by decide +kernel
theorem zf119_138 : fetch 119 138 = some (.ior, 1) := by decide +kernel
theorem zf119_139 : fetch 119 139 = some (.iastore, 1) := by decide +kernel
theorem zf84_34 : fetch 84 34 = some (.iload_n 3, 1) := by decide +kernel
theorem zf84_35 : fetch 84 35 = some (.aload_n 0, 1) := by decide +kernel
theorem zf84_36 : fetch 84 36 = some (.getfield 26, 3) := by decide +kernel
theorem zf84_39 : fetch 84 39 = some (.aload_n 0, 1) := by decide +kernel
theorem zf84_40 : fetch 84 40 = some (.getfield 15, 3) := by decide +kernel
theorem zf84_43 : fetch 84 43 = some (.iaload, 1) := by decide +kernel
theorem zf84_44 : fetch 84 44 = some (.if_icmp .ge 215, 3) := by decide +kernel
theorem zf84_259 : fetch 84 259 = some (.iconst 0, 1) := by decide +kernel
theorem zf84_260 : fetch 84 260 = some (.ireturn, 1) := by decide +kernel
theorem zf84_47 : fetch 84 47 = some (.aload_n 1, 1) := by decide +kernel
theorem zf84_48 : fetch 84 48 = some (.iload_n 3, 1) := by decide +kernel
theorem zf84_49 : fetch 84 49 = some (.iaload, 1) := by decide +kernel
theorem zf84_50 : fetch 84 50 = some (.bipush 16, 2) := by decide +kernel
theorem zf84_52 : fetch 84 52 = some (.irem, 1) := by decide +kernel
theorem zf84_53 : fetch 84 53 = some (.istore 4, 2) := by decide +kernel
theorem zf84_55 : fetch 84 55 = some (.aload_n 1, 1) := by decide +kernel
theorem zf84_56 : fetch 84 56 = some (.iload_n 3, 1) := by decide +kernel
theorem zf84_57 : fetch 84 57 = some (.iaload, 1) := by decide +kernel
theorem zf84_58 : fetch 84 58 = some (.bipush 16, 2) := by decide +kernel
theorem zf84_60 : fetch 84 60 = some (.idiv, 1) := by decide +kernel
theorem zf84_61 : fetch 84 61 = some (.istore 5, 2) := by decide +kernel
theorem zf84_63 : fetch 84 63 = some (.iload 4, 2) := by decide +kernel
theorem zf84_65 : fetch 84 65 = some (.ifCond .eq 9, 3) := by decide +kernel
theorem zf84_74 : fetch 84 74 = some (.iload_n 2, 1) := by decide +kernel
theorem zf84_75 : fetch 84 75 = some (.bipush 64, 2) := by decide +kernel
theorem zf84_77 : fetch 84 77 = some (.if_icmp .ge 19, 3) := by decide +kernel
theorem zf84_96 : fetch 84 96 = some (.iconst 0, 1) := by decide +kernel
theorem zf84_97 : fetch 84 97 = some (.ireturn, 1) := by decide +kernel
theorem zf84_80 : fetch 84 80 = some (.iload 4, 2) := by decide +kernel
theorem zf84_82 : fetch 84 82 = some (.iconst 1, 1) := by decide +kernel
theorem zf84_83 : fetch 84 83 = some (.if_icmp .ne 15, 3) := by decide +kernel
theorem zf84_86 : fetch 84 86 = some (.iload 5, 2) := by decide +kernel
theorem zf84_88 : fetch 84 88 = some (.aload_n 0, 1) := by decide +kernel
theorem zf84_89 : fetch 84 89 = some (.getfield 9, 3) := by decide +kernel
theorem zf84_92 : fetch 84 92 = some (.arraylength, 1) := by decide +kernel
theorem zf84_93 : fetch 84 93 = some (.if_icmp .lt 5, 3) := by decide +kernel
theorem zf84_68 : fetch 84 68 = some (.iload 4, 2) := by decide +kernel
theorem zf84_70 : fetch 84 70 = some (.iconst 1, 1) := by decide +kernel
theorem zf84_71 : fetch 84 71 = some (.if_icmp .ne 56, 3) := by decide +kernel
theorem zf84_127 : fetch 84 127 = some (.iload 4, 2) := by decide +kernel
theorem zf84_129 : fetch 84 129 = some (.bipush 11, 2) := by decide +kernel
theorem zf84_131 : fetch 84 131 = some (.if_icmp .ne 28, 3) := by decide +kernel
theorem zf84_134 : fetch 84 134 = some (.iload_n 2, 1) := by decide +kernel
theorem zf84_135 : fetch 84 135 = some (.ifCond .le 24, 3) := by decide +kernel
theorem zf84_138 : fetch 84 138 = some (.aload_n 0, 1) := by decide +kernel
theorem zf84_139 : fetch 84 139 = some (.getfield 29, 3) := by decide +kernel
theorem zf84_142 : fetch 84 142 = some (.iload_n 2, 1) := by decide +kernel
theorem zf84_143 : fetch 84 143 = some (.iconst 1, 1) := by decide +kernel
theorem zf84_144 : fetch 84 144 = some (.isub, 1) := by decide +kernel
theorem zf84_145 : fetch 84 145 = some (.iconst 1, 1) := by decide +kernel
theorem zf84_146 : fetch 84 146 = some (.aload_n 0, 1) := by decide +kernel
theorem zf84_147 : fetch 84 147 = some (.getfield 29, 3) := by decide +kernel
theorem zf84_150 : fetch 84 150 = some (.iload_n 2, 1) := by decide +kernel
theorem zf84_151 : fetch 84 151 = some (.iconst 1, 1) := by decide +kernel
theorem zf84_152 : fetch 84 152 = some (.isub, 1) := by decide +kernel
theorem zf84_153 : fetch 84 153 = some (.iaload, 1) := by decide +kernel
theorem zf84_154 : fetch 84 154 = some (.isub, 1) := by decide +kernel
theorem zf84_155 : fetch 84 155 = some (.iastore, 1) := by decide +kernel
theorem zf84_156 : fetch 84 156 = some (.goto 97, 3) := by decide +kernel
theorem zf84_253 : fetch 84 253 = some (.iinc 3 1, 3) := by decide +kernel
theorem zf84_256 : fetch 84 256 = some (.goto (-222), 3) := by decide +kernel
theorem zf126_41 : fetch 126 41 = some (.iload 5, 2) := by decide +kernel
theorem zf126_43 : fetch 126 43 = some (.iconst 1, 1) := by decide +kernel
theorem zf126_44 : fetch 126 44 = some (.if_icmp .gt 124, 3) := by decide +kernel
theorem zf126_168 : fetch 126 168 = some (.return_, 1) := by decide +kernel
theorem zf126_47 : fetch 126 47 = some (.aload_n 1, 1) := by decide +kernel
theorem zf126_48 : fetch 126 48 = some (.getfield 66, 3) := by decide +kernel
theorem zf126_51 : fetch 126 51 = some (.iconst 1, 1) := by decide +kernel
theorem zf126_52 : fetch 126 52 = some (.iaload, 1) := by decide +kernel
theorem zf126_53 : fetch 126 53 = some (.aload_n 1, 1) := by decide +kernel
theorem zf126_54 : fetch 126 54 = some (.getfield 66, 3) := by decide +kernel
theorem zf126_57 : fetch 126 57 = some (.iconst 2, 1) := by decide +kernel
theorem zf126_58 : fetch 126 58 = some (.iaload, 1) := by decide +kernel
theorem zf126_59 : fetch 126 59 = some (.iload 5, 2) := by decide +kernel
theorem zf126_61 : fetch 126 61 = some (.invokestatic 71, 3) := by decide +kernel
theorem zf126_64 : fetch 126 64 = some (.istore 6, 2) := by decide +kernel
theorem zf126_66 : fetch 126 66 = some (.iconst 1, 1) := by decide +kernel
theorem zf126_67 : fetch 126 67 = some (.istore 7, 2) := by decide +kernel
theorem zf128_62 : fetch 128 62 = some (.iload 6, 2) := by decide +kernel
theorem zf128_64 : fetch 128 64 = some (.aload_n 0, 1) := by decide +kernel
theorem zf128_65 : fetch 128 65 = some (.getfield 29, 3) := by decide +kernel
theorem zf128_68 : fetch 128 68 = some (.getfield 43, 3) := by decide +kernel
theorem zf128_71 : fetch 128 71 = some (.if_icmp .ge 102, 3) := by decide +kernel
theorem zf128_173 : fetch 128 173 = some (.iinc 5 1, 3) := by decide +kernel
theorem zf128_176 : fetch 128 176 = some (.goto (-129), 3) := by decide +kernel
theorem zf128_74 : fetch 128 74 = some (.aload_n 0, 1) := by decide +kernel
theorem zf128_75 : fetch 128 75 = some (.getfield 11, 3) := by decide +kernel
theorem zf128_78 : fetch 128 78 = some (.iload 5, 2) := by decide +kernel
theorem zf128_80 : fetch 128 80 = some (.iaload, 1) := by decide +kernel
theorem zf128_81 : fetch 128 81 = some (.iconst (-1), 1) := by decide +kernel
theorem zf128_82 : fetch 128 82 = some (.if_icmp .eq 15, 3) := by decide +kernel
theorem zf128_85 : fetch 128 85 = some (.aload_n 0, 1) := by decide +kernel
theorem zf128_86 : fetch 128 86 = some (.getfield 11, 3) := by decide +kernel
theorem zf128_89 : fetch 128 89 = some (.iload 5, 2) := by decide +kernel
theorem zf128_91 : fetch 128 91 = some (.iaload, 1) := by decide +kernel
theorem zf128_92 : fetch 128 92 = some (.iload 4, 2) := by decide +kernel
theorem zf128_94 : fetch 128 94 = some (.if_icmp .ne 79, 3) := by decide +kernel
theorem zf133_37 : fetch 133 37 = some (.iload 7, 2) := by decide +kernel
theorem zf133_39 : fetch 133 39 = some (.aload_n 0, 1) := by decide +kernel
theorem zf133_40 : fetch 133 40 = some (.getfield 29, 3) := by decide +kernel
theorem zf133_43 : fetch 133 43 = some (.getfield 71, 3) := by decide +kernel
theorem zf133_46 : fetch 133 46 = some (.if_icmp .ge 91, 3) := by decide +kernel
theorem zf133_137 : fetch 133 137 = some (.iconst (-1), 1) := by decide +kernel
theorem zf133_138 : fetch 133 138 = some (.ireturn, 1) := by decide +kernel
theorem zf133_49 : fetch 133 49 = some (.iload 5, 2) := by decide +kernel
theorem zf133_51 : fetch 133 51 = some (.istore 8, 2) := by decide +kernel
theorem zf139_36 : fetch 139 36 = some (.iload 4, 2) := by decide +kernel
theorem zf139_38 : fetch 139 38 = some (.aload_n 0, 1) := by decide +kernel
theorem zf139_39 : fetch 139 39 = some (.getfield 29, 3) := by decide +kernel
theorem zf139_42 : fetch 139 42 = some (.getfield 43, 3) := by decide +kernel
theorem zf139_45 : fetch 139 45 = some (.if_icmp .ge 42, 3) := by decide +kernel
theorem zf139_87 : fetch 139 87 = some (.iinc 3 1, 3) := by decide +kernel
theorem zf139_90 : fetch 139 90 = some (.goto (-68), 3) := by decide +kernel
theorem zf139_48 : fetch 139 48 = some (.aload_n 0, 1) := by decide +kernel
theorem zf139_49 : fetch 139 49 = some (.getfield 23, 3) := by decide +kernel
theorem zf139_52 : fetch 139 52 = some (.iload_n 2, 1) := by decide +kernel
theorem zf139_53 : fetch 139 53 = some (.dup2, 1) := by decide +kernel
theorem zf139_54 : fetch 139 54 = some (.iaload, 1) := by decide +kernel
theorem zf139_55 : fetch 139 55 = some (.aload_n 0, 1) := by decide +kernel
theorem zf139_56 : fetch 139 56 = some (.getfield 33, 3) := by decide +kernel
theorem zf139_59 : fetch 139 59 = some (.aload_n 1, 1) := by decide +kernel
theorem zf139_60 : fetch 139 60 = some (.iload_n 3, 1) := by decide +kernel
theorem zf139_61 : fetch 139 61 = some (.iload_n 2, 1) := by decide +kernel
theorem zf139_62 : fetch 139 62 = some (.iload 4, 2) := by decide +kernel
theorem zf139_64 : fetch 139 64 = some (.invokevirtual 47, 3) := by decide +kernel
theorem zf139_67 : fetch 139 67 = some (.iconst (-1), 1) := by decide +kernel
theorem zf139_68 : fetch 139 68 = some (.if_icmp .eq 10, 3) := by decide +kernel
theorem zf139_78 : fetch 139 78 = some (.iconst 0, 1) := by decide +kernel
theorem zf139_79 : fetch 139 79 = some (.ior, 1) := by decide +kernel
theorem zf139_80 : fetch 139 80 = some (.iastore, 1) := by decide +kernel
theorem zf139_81 : fetch 139 81 = some (.iinc 4 1, 3) := by decide +kernel
theorem zf139_84 : fetch 139 84 = some (.goto (-48), 3) := by decide +kernel
theorem zf139_71 : fetch 139 71 = some (.iconst 1, 1) := by decide +kernel
theorem zf139_72 : fetch 139 72 = some (.iload 4, 2) := by decide +kernel
theorem zf139_74 : fetch 139 74 = some (.ishl, 1) := by decide +kernel
theorem zf139_75 : fetch 139 75 = some (.goto 4, 3) := by decide +kernel
theorem zf151_2 : fetch 151 2 = some (.iload_n 2, 1) := by decide +kernel
theorem zf151_3 : fetch 151 3 = some (.aload_n 0, 1) := by decide +kernel
theorem zf151_4 : fetch 151 4 = some (.getfield 38, 3) := by decide +kernel
theorem zf151_7 : fetch 151 7 = some (.if_icmp .ge 87, 3) := by decide +kernel
theorem zf151_94 : fetch 151 94 = some (.iconst 1, 1) := by decide +kernel
theorem zf151_95 : fetch 151 95 = some (.ireturn, 1) := by decide +kernel
theorem zf151_10 : fetch 151 10 = some (.iload_n 2, 1) := by decide +kernel
theorem zf151_11 : fetch 151 11 = some (.iconst 5, 1) := by decide +kernel
theorem zf151_12 : fetch 151 12 = some (.imul, 1) := by decide +kernel
theorem zf151_13 : fetch 151 13 = some (.istore_n 3, 1) := by decide +kernel
theorem zf151_14 : fetch 151 14 = some (.aload_n 0, 1) := by decide +kernel
theorem zf151_15 : fetch 151 15 = some (.getfield 15, 3) := by decide +kernel
theorem zf151_18 : fetch 151 18 = some (.iload_n 3, 1) := by decide +kernel
theorem zf151_19 : fetch 151 19 = some (.iconst 1, 1) := by decide +kernel
theorem zf151_20 : fetch 151 20 = some (.iadd, 1) := by decide +kernel
theorem zf151_21 : fetch 151 21 = some (.iaload, 1) := by decide +kernel
theorem zf151_22 : fetch 151 22 = some (.istore 4, 2) := by decide +kernel
theorem zf151_24 : fetch 151 24 = some (.aload_n 0, 1) := by decide +kernel
theorem zf151_25 : fetch 151 25 = some (.getfield 15, 3) := by decide +kernel
theorem zf151_28 : fetch 151 28 = some (.iload_n 3, 1) := by decide +kernel
theorem zf151_29 : fetch 151 29 = some (.iconst 3, 1) := by decide +kernel
theorem zf151_30 : fetch 151 30 = some (.iadd, 1) := by decide +kernel
theorem zf151_31 : fetch 151 31 = some (.iaload, 1) := by decide +kernel
theorem zf151_32 : fetch 151 32 = some (.istore 5, 2) := by decide +kernel
theorem zf151_34 : fetch 151 34 = some (.aload_n 0, 1) := by decide +kernel
theorem zf151_35 : fetch 151 35 = some (.iload_n 1, 1) := by decide +kernel
theorem zf151_36 : fetch 151 36 = some (.aload_n 0, 1) := by decide +kernel
theorem zf151_37 : fetch 151 37 = some (.getfield 15, 3) := by decide +kernel
theorem zf151_40 : fetch 151 40 = some (.iload_n 3, 1) := by decide +kernel
theorem zf151_41 : fetch 151 41 = some (.iaload, 1) := by decide +kernel
theorem zf151_42 : fetch 151 42 = some (.iload 4, 2) := by decide +kernel
theorem zf151_44 : fetch 151 44 = some (.aload_n 0, 1) := by decide +kernel
theorem zf151_45 : fetch 151 45 = some (.getfield 15, 3) := by decide +kernel
theorem zf151_48 : fetch 151 48 = some (.iload_n 3, 1) := by decide +kernel
theorem zf151_49 : fetch 151 49 = some (.iconst 2, 1) := by decide +kernel
theorem zf151_50 : fetch 151 50 = some (.iadd, 1) := by decide +kernel
theorem zf151_51 : fetch 151 51 = some (.iaload, 1) := by decide +kernel
theorem zf151_52 : fetch 151 52 = some (.iload 5, 2) := by decide +kernel
theorem zf151_54 : fetch 151 54 = some (.invokevirtual 52, 3) := by decide +kernel
theorem zf151_57 : fetch 151 57 = some (.istore 6, 2) := by decide +kernel
theorem zf151_59 : fetch 151 59 = some (.aload_n 0, 1) := by decide +kernel
theorem zf151_60 : fetch 151 60 = some (.getfield 30, 3) := by decide +kernel
theorem zf151_63 : fetch 151 63 = some (.iload 4, 2) := by decide +kernel
theorem zf151_65 : fetch 151 65 = some (.invokevirtual 56, 3) := by decide +kernel
theorem zf151_68 : fetch 151 68 = some (.iload 6, 2) := by decide +kernel
theorem zf151_70 : fetch 151 70 = some (.iload 5, 2) := by decide +kernel
theorem zf151_72 : fetch 151 72 = some (.invokestatic 62, 3) := by decide +kernel
theorem zf151_75 : fetch 151 75 = some (.aload_n 0, 1) := by decide +kernel
theorem zf151_76 : fetch 151 76 = some (.getfield 15, 3) := by decide +kernel
theorem zf151_79 : fetch 151 79 = some (.iload_n 3, 1) := by decide +kernel
theorem zf151_80 : fetch 151 80 = some (.iconst 4, 1) := by decide +kernel
theorem zf151_81 : fetch 151 81 = some (.iadd, 1) := by decide +kernel
theorem zf151_82 : fetch 151 82 = some (.iaload, 1) := by decide +kernel
theorem zf151_83 : fetch 151 83 = some (.if_icmp .eq 5, 3) := by decide +kernel
theorem zf151_88 : fetch 151 88 = some (.iinc 2 1, 3) := by decide +kernel
theorem zf151_91 : fetch 151 91 = some (.goto (-89), 3) := by decide +kernel
theorem zf151_86 : fetch 151 86 = some (.iconst 0, 1) := by decide +kernel
theorem zf151_87 : fetch 151 87 = some (.ireturn, 1) := by decide +kernel
theorem zf155_0 : fetch 155 0 = some (.aload_n 0, 1) := by decide +kernel
theorem zf155_1 : fetch 155 1 = some (.getfield 20, 3) := by decide +kernel
theorem zf155_4 : fetch 155 4 = some (.iconst 0, 1) := by decide +kernel
theorem zf155_5 : fetch 155 5 = some (.invokestatic 76, 3) := by decide +kernel
theorem zf155_8 : fetch 155 8 = some (.iconst 0, 1) := by decide +kernel
theorem zf155_9 : fetch 155 9 = some (.istore 5, 2) := by decide +kernel
theorem zf155_11 : fetch 155 11 = some (.iconst 0, 1) := by decide +kernel
theorem zf155_12 : fetch 155 12 = some (.istore 6, 2) := by decide +kernel
theorem zf161_5 : fetch 161 5 = some (.iload 4, 2) := by decide +kernel
theorem zf161_7 : fetch 161 7 = some (.aload_n 0, 1) := by decide +kernel
theorem zf161_8 : fetch 161 8 = some (.getfield 42, 3) := by decide +kernel
theorem zf161_11 : fetch 161 11 = some (.if_icmp .ge 74, 3) := by decide +kernel
theorem zf161_85 : fetch 161 85 = some (.lload_n 2, 1) := by decide +kernel
theorem zf161_86 : fetch 161 86 = some (.lreturn, 1) := by decide +kernel
theorem zf161_14 : fetch 161 14 = some (.aload_n 0, 1) := by decide +kernel
theorem zf161_15 : fetch 161 15 = some (.getfield 23, 3) := by decide +kernel
theorem zf161_18 : fetch 161 18 = some (.iload 4, 2) := by decide +kernel
theorem zf161_20 : fetch 161 20 = some (.iaload, 1) := by decide +kernel
theorem zf161_21 : fetch 161 21 = some (.iload_n 1, 1) := by decide +kernel
theorem zf161_22 : fetch 161 22 = some (.if_icmp .ne 7, 3) := by decide +kernel
theorem zf161_29 : fetch 161 29 = some (.iconst 0, 1) := by decide +kernel
theorem zf161_25 : fetch 161 25 = some (.iconst 1, 1) := by decide +kernel
theorem zf161_26 : fetch 161 26 = some (.goto 4, 3) := by decide +kernel
theorem zf188_0 : fetch 188 0 = some (.aload_n 0, 1) := by decide +kernel
theorem zf188_1 : fetch 188 1 = some (.getfield 119, 3) := by decide +kernel
theorem zf188_4 : fetch 188 4 = some (.aload_n 0, 1) := by decide +kernel
theorem zf188_5 : fetch 188 5 = some (.getfield 122, 3) := by decide +kernel
theorem zf188_8 : fetch 188 8 = some (.if_icmp .ge 35, 3) := by decide +kernel
theorem zf188_11 : fetch 188 11 = some (.aload_n 0, 1) := by decide +kernel
theorem zf188_12 : fetch 188 12 = some (.getfield 23, 3) := by decide +kernel
theorem zf188_15 : fetch 188 15 = some (.aload_n 0, 1) := by decide +kernel
theorem zf188_16 : fetch 188 16 = some (.getfield 125, 3) := by decide +kernel
theorem zf188_19 : fetch 188 19 = some (.aload_n 0, 1) := by decide +kernel
theorem zf188_20 : fetch 188 20 = some (.getfield 119, 3) := by decide +kernel
theorem zf188_23 : fetch 188 23 = some (.iadd, 1) := by decide +kernel
theorem zf188_24 : fetch 188 24 = some (.baload, 1) := by decide +kernel
theorem zf188_25 : fetch 188 25 = some (.bipush 32, 2) := by decide +kernel
theorem zf188_27 : fetch 188 27 = some (.if_icmp .ne 16, 3) := by decide +kernel
theorem zf188_30 : fetch 188 30 = some (.aload_n 0, 1) := by decide +kernel
theorem zf188_31 : fetch 188 31 = some (.dup, 1) := by decide +kernel
theorem zf188_32 : fetch 188 32 = some (.getfield 119, 3) := by decide +kernel
theorem zf188_35 : fetch 188 35 = some (.iconst 1, 1) := by decide +kernel
theorem zf188_36 : fetch 188 36 = some (.iadd, 1) := by decide +kernel
theorem zf188_37 : fetch 188 37 = some (.putfield 119, 3) := by decide +kernel
theorem zf188_40 : fetch 188 40 = some (.goto (-40), 3) := by decide +kernel
theorem zf189_0 : fetch 189 0 = some (.aload_n 0, 1) := by decide +kernel
theorem zf189_1 : fetch 189 1 = some (.getfield 128, 3) := by decide +kernel
theorem zf189_4 : fetch 189 4 = some (.iconst (-1), 1) := by decide +kernel
theorem zf189_5 : fetch 189 5 = some (.if_icmp .ne 11, 3) := by decide +kernel
theorem zf189_16 : fetch 189 16 = some (.iconst 0, 1) := by decide +kernel
theorem zf189_17 : fetch 189 17 = some (.ireturn, 1) := by decide +kernel
theorem zf189_8 : fetch 189 8 = some (.aload_n 0, 1) := by decide +kernel
theorem zf189_9 : fetch 189 9 = some (.aload_n 0, 1) := by decide +kernel
theorem zf189_10 : fetch 189 10 = some (.getfield 119, 3) := by decide +kernel
theorem zf189_13 : fetch 189 13 = some (.putfield 128, 3) := by decide +kernel
theorem zf214_0 : fetch 214 0 = some (.ldc_w 267, 3) := by decide +kernel
theorem zf214_3 : fetch 214 3 = some (.aload_n 0, 1) := by decide +kernel
theorem zf214_4 : fetch 214 4 = some (.invokevirtual 138, 3) := by decide +kernel
theorem zf214_7 : fetch 214 7 = some (.invokestatic 225, 3) := by decide +kernel
theorem zf214_10 : fetch 214 10 = some (.istore_n 2, 1) := by decide +kernel
theorem zf214_11 : fetch 214 11 = some (.iload_n 2, 1) := by decide +kernel
theorem zf214_12 : fetch 214 12 = some (.iconst (-1), 1) := by decide +kernel
theorem zf214_13 : fetch 214 13 = some (.if_icmp .ne 9, 3) := by decide +kernel
theorem zf214_22 : fetch 214 22 = some (.aload_n 0, 1) := by decide +kernel
theorem zf214_23 : fetch 214 23 = some (.dup, 1) := by decide +kernel
theorem zf214_24 : fetch 214 24 = some (.getfield 119, 3) := by decide +kernel
theorem zf214_27 : fetch 214 27 = some (.iconst 1, 1) := by decide +kernel
theorem zf214_28 : fetch 214 28 = some (.iadd, 1) := by decide +kernel
theorem zf214_29 : fetch 214 29 = some (.putfield 119, 3) := by decide +kernel
theorem zf214_32 : fetch 214 32 = some (.aload_n 0, 1) := by decide +kernel
theorem zf214_33 : fetch 214 33 = some (.getfield 55, 3) := by decide +kernel
theorem zf214_36 : fetch 214 36 = some (.iload_n 1, 1) := by decide +kernel
theorem zf214_37 : fetch 214 37 = some (.iload_n 2, 1) := by decide +kernel
theorem zf214_38 : fetch 214 38 = some (.iastore, 1) := by decide +kernel
theorem zf214_39 : fetch 214 39 = some (.aload_n 0, 1) := by decide +kernel
theorem zf214_40 : fetch 214 40 = some (.getfield 55, 3) := by decide +kernel
theorem zf214_43 : fetch 214 43 = some (.iload_n 1, 1) := by decide +kernel
theorem zf214_44 : fetch 214 44 = some (.iconst 1, 1) := by decide +kernel
theorem zf214_45 : fetch 214 45 = some (.iadd, 1) := by decide +kernel
theorem zf214_46 : fetch 214 46 = some (.aload_n 0, 1) := by decide +kernel
theorem zf214_47 : fetch 214 47 = some (.bipush 9, 2) := by decide +kernel
theorem zf214_49 : fetch 214 49 = some (.invokevirtual 269, 3) := by decide +kernel
theorem zf214_52 : fetch 214 52 = some (.iastore, 1) := by decide +kernel
theorem zf214_53 : fetch 214 53 = some (.aload_n 0, 1) := by decide +kernel
theorem zf214_54 : fetch 214 54 = some (.getfield 55, 3) := by decide +kernel
theorem zf214_57 : fetch 214 57 = some (.iload_n 1, 1) := by decide +kernel
theorem zf214_58 : fetch 214 58 = some (.iconst 2, 1) := by decide +kernel
theorem zf214_59 : fetch 214 59 = some (.iadd, 1) := by decide +kernel
theorem zf214_60 : fetch 214 60 = some (.iconst (-1), 1) := by decide +kernel
theorem zf214_61 : fetch 214 61 = some (.iastore, 1) := by decide +kernel
theorem zf214_62 : fetch 214 62 = some (.aload_n 0, 1) := by decide +kernel
theorem zf214_63 : fetch 214 63 = some (.getfield 55, 3) := by decide +kernel
theorem zf214_66 : fetch 214 66 = some (.iload_n 1, 1) := by decide +kernel
theorem zf214_67 : fetch 214 67 = some (.iconst 3, 1) := by decide +kernel
theorem zf214_68 : fetch 214 68 = some (.iadd, 1) := by decide +kernel
theorem zf214_69 : fetch 214 69 = some (.iconst (-1), 1) := by decide +kernel
theorem zf214_70 : fetch 214 70 = some (.iastore, 1) := by decide +kernel
theorem zf214_71 : fetch 214 71 = some (.aload_n 0, 1) := by decide +kernel
theorem zf214_72 : fetch 214 72 = some (.getfield 128, 3) := by decide +kernel
theorem zf214_75 : fetch 214 75 = some (.iconst (-1), 1) := by decide +kernel
theorem zf214_76 : fetch 214 76 = some (.if_icmp .ne 8, 3) := by decide +kernel
theorem zf214_84 : fetch 214 84 = some (.return_, 1) := by decide +kernel
theorem zf214_79 : fetch 214 79 = some (.iload_n 2, 1) := by decide +kernel
theorem zf214_80 : fetch 214 80 = some (.iconst 1, 1) := by decide +kernel
theorem zf214_81 : fetch 214 81 = some (.if_icmp .ne 4, 3) := by decide +kernel
theorem zf214_85 : fetch 214 85 = some (.aload_n 0, 1) := by decide +kernel
theorem zf214_86 : fetch 214 86 = some (.getfield 55, 3) := by decide +kernel
theorem zf214_89 : fetch 214 89 = some (.iload_n 1, 1) := by decide +kernel
theorem zf214_90 : fetch 214 90 = some (.iconst 2, 1) := by decide +kernel
theorem zf214_91 : fetch 214 91 = some (.iadd, 1) := by decide +kernel
theorem zf214_92 : fetch 214 92 = some (.aload_n 0, 1) := by decide +kernel
theorem zf214_93 : fetch 214 93 = some (.iload_n 2, 1) := by decide +kernel
theorem zf214_94 : fetch 214 94 = some (.iconst 3, 1) := by decide +kernel
theorem zf214_95 : fetch 214 95 = some (.if_icmp .ne 8, 3) := by decide +kernel
theorem zf214_103 : fetch 214 103 = some (.iconst 1, 1) := by decide +kernel
theorem zf214_98 : fetch 214 98 = some (.bipush 9, 2) := by decide +kernel
theorem zf214_100 : fetch 214 100 = some (.goto 4, 3) := by decide +kernel
theorem zf214_16 : fetch 214 16 = some (.aload_n 0, 1) := by decide +kernel
theorem zf214_17 : fetch 214 17 = some (.invokevirtual 134, 3) := by decide +kernel
theorem zf214_20 : fetch 214 20 = some (.pop, 1) := by decide +kernel
theorem zf214_21 : fetch 214 21 = some (.return_, 1) := by decide +kernel
theorem zf213_57 : fetch 213 57 = some (.istore_n 2, 1) := by decide +kernel
theorem zf213_58 : fetch 213 58 = some (.iload_n 2, 1) := by decide +kernel
theorem zf213_59 : fetch 213 59 = some (.ifCond .eq 15, 3) := by decide +kernel
theorem zf213_74 : fetch 213 74 = some (.iload_n 2, 1) := by decide +kernel
theorem zf213_75 : fetch 213 75 = some (.ifCond .eq (-58), 3) := by decide +kernel
theorem zf213_78 : fetch 213 78 = some (.aload_n 0, 1) := by decide +kernel
theorem zf213_79 : fetch 213 79 = some (.dup, 1) := by decide +kernel
theorem zf213_80 : fetch 213 80 = some (.getfield 119, 3) := by decide +kernel
theorem zf213_83 : fetch 213 83 = some (.iconst 1, 1) := by decide +kernel
theorem zf213_84 : fetch 213 84 = some (.iadd, 1) := by decide +kernel
theorem zf213_85 : fetch 213 85 = some (.putfield 119, 3) := by decide +kernel
theorem zf213_88 : fetch 213 88 = some (.goto (-71), 3) := by decide +kernel
theorem zf213_62 : fetch 213 62 = some (.iload_n 1, 1) := by decide +kernel
theorem zf213_63 : fetch 213 63 = some (.bipush 16, 2) := by decide +kernel
theorem zf213_65 : fetch 213 65 = some (.if_icmp .ne 9, 3) := by decide +kernel
theorem zf213_68 : fetch 213 68 = some (.aload_n 0, 1) := by decide +kernel
theorem zf213_69 : fetch 213 69 = some (.invokevirtual 134, 3) := by decide +kernel
theorem zf213_72 : fetch 213 72 = some (.pop, 1) := by decide +kernel
theorem zf213_73 : fetch 213 73 = some (.return_, 1) := by decide +kernel
theorem zf201_0 : fetch 201 0 = some (.iconst 0, 1) := by decide +kernel
theorem zf201_1 : fetch 201 1 = some (.istore_n 2, 1) := by decide +kernel
theorem zf202_0 : fetch 202 0 = some (.aload_n 0, 1) := by decide +kernel
theorem zf202_1 : fetch 202 1 = some (.getfield 128, 3) := by decide +kernel
theorem zf202_4 : fetch 202 4 = some (.iconst (-1), 1) := by decide +kernel
theorem zf202_5 : fetch 202 5 = some (.if_icmp .ne 11, 3) := by decide +kernel
theorem zf202_16 : fetch 202 16 = some (.aload_n 0, 1) := by decide +kernel
theorem zf202_17 : fetch 202 17 = some (.invokevirtual 134, 3) := by decide +kernel
theorem zf202_20 : fetch 202 20 = some (.ireturn, 1) := by decide +kernel
theorem zf202_8 : fetch 202 8 = some (.aload_n 0, 1) := by decide +kernel
theorem zf202_9 : fetch 202 9 = some (.invokevirtual 138, 3) := by decide +kernel
theorem zf202_12 : fetch 202 12 = some (.iload_n 1, 1) := by decide +kernel
theorem zf202_13 : fetch 202 13 = some (.if_icmp .eq 8, 3) := by decide +kernel
theorem zf202_21 : fetch 202 21 = some (.aload_n 0, 1) := by decide +kernel
theorem zf202_22 : fetch 202 22 = some (.dup, 1) := by decide +kernel
theorem zf202_23 : fetch 202 23 = some (.getfield 119, 3) := by decide +kernel
theorem zf202_26 : fetch 202 26 = some (.iconst 1, 1) := by decide +kernel
theorem zf202_27 : fetch 202 27 = some (.iadd, 1) := by decide +kernel
theorem zf202_28 : fetch 202 28 = some (.putfield 119, 3) := by decide +kernel
theorem zf202_31 : fetch 202 31 = some (.iconst 1, 1) := by decide +kernel
theorem zf202_32 : fetch 202 32 = some (.ireturn, 1) := by decide +kernel
theorem zf203_0 : fetch 203 0 = some (.aload_n 0, 1) := by decide +kernel
theorem zf203_1 : fetch 203 1 = some (.iload_n 1, 1) := by decide +kernel
theorem zf203_2 : fetch 203 2 = some (.iload_n 2, 1) := by decide +kernel
theorem zf203_3 : fetch 203 3 = some (.invokevirtual 194, 3) := by decide +kernel
theorem zf203_6 : fetch 203 6 = some (.istore_n 3, 1) := by decide +kernel
theorem zf206_0 : fetch 206 0 = some (.aload_n 0, 1) := by decide +kernel
theorem zf206_1 : fetch 206 1 = some (.invokevirtual 178, 3) := by decide +kernel
theorem zf206_4 : fetch 206 4 = some (.istore_n 1, 1) := by decide +kernel
theorem zf200_134 : fetch 200 134 = some (.aload_n 0, 1) := by decide +kernel
theorem zf200_135 : fetch 200 135 = some (.getfield 128, 3) := by decide +kernel
theorem zf200_138 : fetch 200 138 = some (.iconst (-1), 1) := by decide +kernel
theorem zf200_139 : fetch 200 139 = some (.if_icmp .ne 22, 3) := by decide +kernel
theorem zf200_161 : fetch 200 161 = some (.return_, 1) := by decide +kernel
theorem zf200_142 : fetch 200 142 = some (.aload_n 0, 1) := by decide +kernel
theorem zf200_143 : fetch 200 143 = some (.getfield 197, 3) := by decide +kernel
theorem zf200_146 : fetch 200 146 = some (.ifCond .ne 15, 3) := by decide +kernel
theorem zf200_149 : fetch 200 149 = some (.iload_n 1, 1) := by decide +kernel
theorem zf200_150 : fetch 200 150 = some (.aload_n 0, 1) := by decide +kernel
theorem zf200_151 : fetch 200 151 = some (.getfield 201, 3) := by decide +kernel
theorem zf200_154 : fetch 200 154 = some (.if_icmp .ne 7, 3) := by decide +kernel
theorem zf200_157 : fetch 200 157 = some (.iload_n 2, 1) := by decide +kernel
theorem zf200_158 : fetch 200 158 = some (.ifCond .ne 4, 3) := by decide +kernel
theorem zf200_162 : fetch 200 162 = some (.aload_n 0, 1) := by decide +kernel
theorem zf200_163 : fetch 200 163 = some (.iconst 1, 1) := by decide +kernel
theorem zf200_164 : fetch 200 164 = some (.putfield 197, 3) := by decide +kernel
theorem zf200_167 : fetch 200 167 = some (.aload_n 0, 1) := by decide +kernel
theorem zf200_168 : fetch 200 168 = some (.iload_n 3, 1) := by decide +kernel
theorem zf200_169 : fetch 200 169 = some (.putfield 204, 3) := by decide +kernel
theorem zf200_172 : fetch 200 172 = some (.return_, 1) := by decide +kernel
theorem zf211_0 : fetch 211 0 = some (.iload_n 0, 1) := by decide +kernel
theorem zf211_1 : fetch 211 1 = some (.bipush 61, 2) := by decide +kernel
theorem zf211_3 : fetch 211 3 = some (.if_icmp .eq 15, 3) := by decide +kernel
theorem zf211_18 : fetch 211 18 = some (.iconst 1, 1) := by decide +kernel
theorem zf211_19 : fetch 211 19 = some (.goto 4, 3) := by decide +kernel
theorem zf211_23 : fetch 211 23 = some (.ireturn, 1) := by decide +kernel
theorem zf211_6 : fetch 211 6 = some (.iload_n 0, 1) := by decide +kernel
theorem zf211_7 : fetch 211 7 = some (.bipush 60, 2) := by decide +kernel
theorem zf211_9 : fetch 211 9 = some (.if_icmp .eq 9, 3) := by decide +kernel
theorem zf211_12 : fetch 211 12 = some (.iload_n 0, 1) := by decide +kernel
theorem zf211_13 : fetch 211 13 = some (.bipush 62, 2) := by decide +kernel
theorem zf211_15 : fetch 211 15 = some (.if_icmp .ne 7, 3) := by decide +kernel
theorem zf211_22 : fetch 211 22 = some (.iconst 0, 1) := by decide +kernel
theorem zf184_111 : fetch 184 111 = some (.aload_n 0, 1) := by decide +kernel
theorem zf184_112 : fetch 184 112 = some (.getfield 128, 3) := by decide +kernel
theorem zf184_115 : fetch 184 115 = some (.iconst (-1), 1) := by decide +kernel
theorem zf184_116 : fetch 184 116 = some (.if_icmp .ne 23, 3) := by decide +kernel
theorem zf184_139 : fetch 184 139 = some (.return_, 1) := by decide +kernel
theorem zf184_119 : fetch 184 119 = some (.aload_n 0, 1) := by decide +kernel
theorem zf184_120 : fetch 184 120 = some (.invokevirtual 138, 3) := by decide +kernel
theorem zf184_123 : fetch 184 123 = some (.iconst (-1), 1) := by decide +kernel
theorem zf184_124 : fetch 184 124 = some (.if_icmp .ne 10, 3) := by decide +kernel
theorem zf184_134 : fetch 184 134 = some (.aload_n 0, 1) := by decide +kernel
theorem zf184_135 : fetch 184 135 = some (.invokevirtual 134, 3) := by decide +kernel
theorem zf184_138 : fetch 184 138 = some (.pop, 1) := by decide +kernel
theorem zf184_127 : fetch 184 127 = some (.aload_n 0, 1) := by decide +kernel
theorem zf184_128 : fetch 184 128 = some (.invokevirtual 264, 3) := by decide +kernel
theorem zf184_131 : fetch 184 131 = some (.ifCond .ne 8, 3) := by decide +kernel
theorem zf187_0 : fetch 187 0 = some (.aload_n 0, 1) := by decide +kernel
theorem zf187_1 : fetch 187 1 = some (.invokevirtual 138, 3) := by decide +kernel
theorem zf187_4 : fetch 187 4 = some (.istore_n 1, 1) := by decide +kernel
theorem zf187_5 : fetch 187 5 = some (.iload_n 1, 1) := by decide +kernel
theorem zf187_6 : fetch 187 6 = some (.bipush 115, 2) := by decide +kernel
theorem zf187_8 : fetch 187 8 = some (.if_icmp .ne 10, 3) := by decide +kernel
theorem zf187_11 : fetch 187 11 = some (.aload_n 0, 1) := by decide +kernel
theorem zf187_12 : fetch 187 12 = some (.getfield 242, 3) := by decide +kernel
theorem zf187_15 : fetch 187 15 = some (.ifCond .eq 32, 3) := by decide +kernel
theorem zf187_47 : fetch 187 47 = some (.iconst 1, 1) := by decide +kernel
theorem zf187_48 : fetch 187 48 = some (.goto 4, 3) := by decide +kernel
theorem zf216_274 : fetch 216 274 = some (.iload_n 3, 1) := by decide +kernel
theorem zf216_275 : fetch 216 275 = some (.bipush 15, 2) := by decide +kernel
theorem zf216_277 : fetch 216 277 = some (.if_icmp .ge 21, 3) := by decide +kernel
theorem zf216_298 : fetch 216 298 = some (.iconst 0, 1) := by decide +kernel
theorem zf216_299 : fetch 216 299 = some (.istore_n 3, 1) := by decide +kernel
theorem zf216_280 : fetch 216 280 = some (.aload_n 0, 1) := by decide +kernel
theorem zf216_281 : fetch 216 281 = some (.getfield 49, 3) := by decide +kernel
theorem zf216_284 : fetch 216 284 = some (.iload_n 3, 1) := by decide +kernel
theorem zf216_285 : fetch 216 285 = some (.aload_n 0, 1) := by decide +kernel
theorem zf216_286 : fetch 216 286 = some (.getfield 52, 3) := by decide +kernel
theorem zf216_289 : fetch 216 289 = some (.iload_n 3, 1) := by decide +kernel
theorem zf216_290 : fetch 216 290 = some (.iaload, 1) := by decide +kernel
theorem zf216_291 : fetch 216 291 = some (.iastore, 1) := by decide +kernel
theorem zf216_292 : fetch 216 292 = some (.iinc 3 1, 3) := by decide +kernel
theorem zf216_295 : fetch 216 295 = some (.goto (-21), 3) := by decide +kernel
theorem zf247_48 : fetch 247 48 = some (.iload_n 2, 1) := by decide +kernel
theorem zf247_49 : fetch 247 49 = some (.aload_n 0, 1) := by decide +kernel
theorem zf247_50 : fetch 247 50 = some (.getfield 294, 3) := by decide +kernel
theorem zf247_53 : fetch 247 53 = some (.if_icmp .ge 35, 3) := by decide +kernel
theorem zf247_88 : fetch 247 88 = some (.return_, 1) := by decide +kernel
theorem zf247_56 : fetch 247 56 = some (.aload_n 1, 1) := by decide +kernel
theorem zf247_57 : fetch 247 57 = some (.bipush 35, 2) := by decide +kernel
theorem zf247_59 : fetch 247 59 = some (.iaload, 1) := by decide +kernel
theorem zf247_60 : fetch 247 60 = some (.iconst 4, 1) := by decide +kernel
theorem zf247_61 : fetch 247 61 = some (.irem, 1) := by decide +kernel
theorem zf247_62 : fetch 247 62 = some (.ifCond .ne 26, 3) := by decide +kernel
theorem zf247_65 : fetch 247 65 = some (.aload_n 1, 1) := by decide +kernel
theorem zf247_66 : fetch 247 66 = some (.iconst 0, 1) := by decide +kernel
theorem zf247_67 : fetch 247 67 = some (.iload_n 2, 1) := by decide +kernel
theorem zf247_68 : fetch 247 68 = some (.iadd, 1) := by decide +kernel
theorem zf247_69 : fetch 247 69 = some (.bipush 9, 2) := by decide +kernel
theorem zf247_71 : fetch 247 71 = some (.aload_n 1, 1) := by decide +kernel
theorem zf247_72 : fetch 247 72 = some (.iconst 0, 1) := by decide +kernel
theorem zf247_73 : fetch 247 73 = some (.iload_n 2, 1) := by decide +kernel
theorem zf247_74 : fetch 247 74 = some (.iadd, 1) := by decide +kernel
theorem zf247_75 : fetch 247 75 = some (.iaload, 1) := by decide +kernel
theorem zf247_76 : fetch 247 76 = some (.iconst 1, 1) := by decide +kernel
theorem zf247_77 : fetch 247 77 = some (.iadd, 1) := by decide +kernel
theorem zf247_78 : fetch 247 78 = some (.invokestatic 318, 3) := by decide +kernel
theorem zf247_81 : fetch 247 81 = some (.iastore, 1) := by decide +kernel
theorem zf247_82 : fetch 247 82 = some (.iinc 2 1, 3) := by decide +kernel
theorem zf247_85 : fetch 247 85 = some (.goto (-37), 3) := by decide +kernel
theorem zf250_5 : fetch 250 5 = some (.iload 4, 2) := by decide +kernel
theorem zf250_7 : fetch 250 7 = some (.bipush 6, 2) := by decide +kernel
theorem zf250_9 : fetch 250 9 = some (.if_icmp .ge 48, 3) := by decide +kernel
theorem zf250_57 : fetch 250 57 = some (.iload_n 3, 1) := by decide +kernel
theorem zf250_58 : fetch 250 58 = some (.ireturn, 1) := by decide +kernel
theorem zf250_12 : fetch 250 12 = some (.aload_n 1, 1) := by decide +kernel
theorem zf250_13 : fetch 250 13 = some (.bipush 8, 2) := by decide +kernel
theorem zf250_15 : fetch 250 15 = some (.aload_n 1, 1) := by decide +kernel
theorem zf250_16 : fetch 250 16 = some (.iload_n 2, 1) := by decide +kernel
theorem zf250_17 : fetch 250 17 = some (.invokestatic 300, 3) := by decide +kernel
theorem zf250_20 : fetch 250 20 = some (.iaload, 1) := by decide +kernel
theorem zf250_21 : fetch 250 21 = some (.iadd, 1) := by decide +kernel
theorem zf250_22 : fetch 250 22 = some (.iaload, 1) := by decide +kernel
theorem zf250_23 : fetch 250 23 = some (.iload 4, 2) := by decide +kernel
theorem zf250_25 : fetch 250 25 = some (.invokestatic 229, 3) := by decide +kernel
theorem zf250_28 : fetch 250 28 = some (.ifCond .eq 23, 3) := by decide +kernel
theorem zf250_51 : fetch 250 51 = some (.iinc 4 1, 3) := by decide +kernel
theorem zf250_54 : fetch 250 54 = some (.goto (-49), 3) := by decide +kernel
theorem zf250_31 : fetch 250 31 = some (.iload_n 3, 1) := by decide +kernel
theorem zf250_32 : fetch 250 32 = some (.invokestatic 355, 3) := by decide +kernel
theorem zf250_35 : fetch 250 35 = some (.aload_n 0, 1) := by decide +kernel
theorem zf250_36 : fetch 250 36 = some (.getfield 37, 3) := by decide +kernel
theorem zf250_39 : fetch 250 39 = some (.iconst 3, 1) := by decide +kernel
theorem zf250_40 : fetch 250 40 = some (.iaload, 1) := by decide +kernel
theorem zf250_41 : fetch 250 41 = some (.if_icmp .ge 10, 3) := by decide +kernel
theorem zf250_44 : fetch 250 44 = some (.iload_n 3, 1) := by decide +kernel
theorem zf250_45 : fetch 250 45 = some (.iconst 1, 1) := by decide +kernel
theorem zf250_46 : fetch 250 46 = some (.iload 4, 2) := by decide +kernel
theorem zf250_48 : fetch 250 48 = some (.ishl, 1) := by decide +kernel
theorem zf250_49 : fetch 250 49 = some (.ior, 1) := by decide +kernel
theorem zf250_50 : fetch 250 50 = some (.istore_n 3, 1) := by decide +kernel
theorem zf264_39 : fetch 264 39 = some (.iload_n 3, 1) := by decide +kernel
theorem zf264_40 : fetch 264 40 = some (.ifCond .le 105, 3) := by decide +kernel
theorem zf264_145 : fetch 264 145 = some (.iinc 2 1, 3) := by decide +kernel
theorem zf264_148 : fetch 264 148 = some (.goto (-120), 3) := by decide +kernel
theorem zf264_43 : fetch 264 43 = some (.iconst 0, 1) := by decide +kernel
theorem zf264_44 : fetch 264 44 = some (.istore 4, 2) := by decide +kernel
theorem zf268_91 : fetch 268 91 = some (.iload 8, 2) := by decide +kernel
theorem zf268_93 : fetch 268 93 = some (.aload_n 0, 1) := by decide +kernel
theorem zf268_94 : fetch 268 94 = some (.getfield 294, 3) := by decide +kernel
theorem zf268_97 : fetch 268 97 = some (.if_icmp .ge 68, 3) := by decide +kernel
theorem zf268_165 : fetch 268 165 = some (.return_, 1) := by decide +kernel
theorem zf268_100 : fetch 268 100 = some (.iload 4, 2) := by decide +kernel
theorem zf268_102 : fetch 268 102 = some (.iload 8, 2) := by decide +kernel
theorem zf268_104 : fetch 268 104 = some (.invokestatic 229, 3) := by decide +kernel
theorem zf268_107 : fetch 268 107 = some (.ifCond .ne 52, 3) := by decide +kernel
theorem zf268_159 : fetch 268 159 = some (.iinc 8 1, 3) := by decide +kernel
theorem zf268_162 : fetch 268 162 = some (.goto (-71), 3) := by decide +kernel
theorem zf268_110 : fetch 268 110 = some (.aload_n 0, 1) := by decide +kernel
theorem zf268_111 : fetch 268 111 = some (.iload_n 1, 1) := by decide +kernel
theorem zf268_112 : fetch 268 112 = some (.iload_n 2, 1) := by decide +kernel
theorem zf268_113 : fetch 268 113 = some (.iload 8, 2) := by decide +kernel
theorem zf268_115 : fetch 268 115 = some (.invokevirtual 446, 3) := by decide +kernel
theorem zf268_118 : fetch 268 118 = some (.ifCond .le 41, 3) := by decide +kernel
theorem zf268_121 : fetch 268 121 = some (.aload_n 0, 1) := by decide +kernel
theorem zf268_122 : fetch 268 122 = some (.iload_n 1, 1) := by decide +kernel
theorem zf268_123 : fetch 268 123 = some (.iload 8, 2) := by decide +kernel
theorem zf268_125 : fetch 268 125 = some (.iload_n 3, 1) := by decide +kernel
theorem zf268_126 : fetch 268 126 = some (.iload 4, 2) := by decide +kernel
theorem zf268_128 : fetch 268 128 = some (.iconst 1, 1) := by decide +kernel
theorem zf268_129 : fetch 268 129 = some (.iload 8, 2) := by decide +kernel
theorem zf268_131 : fetch 268 131 = some (.ishl, 1) := by decide +kernel
theorem zf268_132 : fetch 268 132 = some (.ior, 1) := by decide +kernel
theorem zf268_133 : fetch 268 133 = some (.iload 5, 2) := by decide +kernel
theorem zf268_135 : fetch 268 135 = some (.iconst 1, 1) := by decide +kernel
theorem zf268_136 : fetch 268 136 = some (.iadd, 1) := by decide +kernel
theorem zf268_137 : fetch 268 137 = some (.iload 6, 2) := by decide +kernel
theorem zf268_139 : fetch 268 139 = some (.aload_n 0, 1) := by decide +kernel
theorem zf268_140 : fetch 268 140 = some (.iload_n 1, 1) := by decide +kernel
theorem zf268_141 : fetch 268 141 = some (.iload_n 2, 1) := by decide +kernel
theorem zf268_142 : fetch 268 142 = some (.iload 8, 2) := by decide +kernel
theorem zf268_144 : fetch 268 144 = some (.invokevirtual 446, 3) := by decide +kernel
theorem zf268_147 : fetch 268 147 = some (.iadd, 1) := by decide +kernel
theorem zf268_148 : fetch 268 148 = some (.bipush 10, 2) := by decide +kernel
theorem zf268_150 : fetch 268 150 = some (.iload 7, 2) := by decide +kernel
theorem zf268_152 : fetch 268 152 = some (.imul, 1) := by decide +kernel
theorem zf268_153 : fetch 268 153 = some (.iload 8, 2) := by decide +kernel
theorem zf268_155 : fetch 268 155 = some (.iadd, 1) := by decide +kernel
theorem zf268_156 : fetch 268 156 = some (.invokevirtual 459, 3) := by decide +kernel
theorem zf275_0 : fetch 275 0 = some (.aload_n 0, 1) := by decide +kernel
theorem zf275_1 : fetch 275 1 = some (.getfield 77, 3) := by decide +kernel
theorem zf275_4 : fetch 275 4 = some (.iload_n 1, 1) := by decide +kernel
theorem zf275_5 : fetch 275 5 = some (.iaload, 1) := by decide +kernel
theorem zf275_6 : fetch 275 6 = some (.istore 6, 2) := by decide +kernel
theorem zf275_8 : fetch 275 8 = some (.iload 6, 2) := by decide +kernel
theorem zf275_10 : fetch 275 10 = some (.iload_n 2, 1) := by decide +kernel
theorem zf275_11 : fetch 275 11 = some (.if_icmp .eq 14, 3) := by decide +kernel
theorem zf275_25 : fetch 275 25 = some (.iconst 0, 1) := by decide +kernel
theorem zf275_26 : fetch 275 26 = some (.ireturn, 1) := by decide +kernel
theorem zf275_14 : fetch 275 14 = some (.aload_n 0, 1) := by decide +kernel
theorem zf275_15 : fetch 275 15 = some (.iload_n 1, 1) := by decide +kernel
theorem zf275_16 : fetch 275 16 = some (.iload 6, 2) := by decide +kernel
theorem zf275_18 : fetch 275 18 = some (.iload_n 2, 1) := by decide +kernel
theorem zf275_19 : fetch 275 19 = some (.invokevirtual 446, 3) := by decide +kernel
theorem zf275_22 : fetch 275 22 = some (.ifCond .ne 5, 3) := by decide +kernel
theorem zf275_27 : fetch 275 27 = some (.aload_n 0, 1) := by decide +kernel
theorem zf275_28 : fetch 275 28 = some (.getfield 77, 3) := by decide +kernel
theorem zf275_31 : fetch 275 31 = some (.iload_n 1, 1) := by decide +kernel
theorem zf275_32 : fetch 275 32 = some (.iload_n 2, 1) := by decide +kernel
theorem zf275_33 : fetch 275 33 = some (.iastore, 1) := by decide +kernel
theorem zf275_34 : fetch 275 34 = some (.aload_n 0, 1) := by decide +kernel
theorem zf275_35 : fetch 275 35 = some (.iload_n 3, 1) := by decide +kernel
theorem zf275_36 : fetch 275 36 = some (.iload 6, 2) := by decide +kernel
theorem zf275_38 : fetch 275 38 = some (.invokestatic 229, 3) := by decide +kernel
theorem zf275_41 : fetch 275 41 = some (.ifCond .eq 11, 3) := by decide +kernel
theorem zf275_52 : fetch 275 52 = some (.iload_n 3, 1) := by decide +kernel
theorem zf275_53 : fetch 275 53 = some (.iload 4, 2) := by decide +kernel
theorem zf275_55 : fetch 275 55 = some (.iload 5, 2) := by decide +kernel
theorem zf275_57 : fetch 275 57 = some (.iconst 1, 1) := by decide +kernel
theorem zf275_58 : fetch 275 58 = some (.isub, 1) := by decide +kernel
theorem zf275_59 : fetch 275 59 = some (.invokevirtual 478, 3) := by decide +kernel
theorem zf275_62 : fetch 275 62 = some (.istore 7, 2) := by decide +kernel
theorem zf275_64 : fetch 275 64 = some (.aload_n 0, 1) := by decide +kernel
theorem zf275_65 : fetch 275 65 = some (.getfield 77, 3) := by decide +kernel
theorem zf275_68 : fetch 275 68 = some (.iload_n 1, 1) := by decide +kernel
theorem zf275_69 : fetch 275 69 = some (.iload 6, 2) := by decide +kernel
theorem zf275_71 : fetch 275 71 = some (.iastore, 1) := by decide +kernel
theorem zf275_72 : fetch 275 72 = some (.iload 7, 2) := by decide +kernel
theorem zf275_74 : fetch 275 74 = some (.ireturn, 1) := by decide +kernel
theorem zf275_44 : fetch 275 44 = some (.iload_n 3, 1) := by decide +kernel
theorem zf275_45 : fetch 275 45 = some (.iconst 1, 1) := by decide +kernel
theorem zf275_46 : fetch 275 46 = some (.iload_n 2, 1) := by decide +kernel
theorem zf275_47 : fetch 275 47 = some (.ishl, 1) := by decide +kernel
theorem zf275_48 : fetch 275 48 = some (.ior, 1) := by decide +kernel
theorem zf275_49 : fetch 275 49 = some (.goto 4, 3) := by decide +kernel
theorem zf280_95 : fetch 280 95 = some (.iload 8, 2) := by decide +kernel
theorem zf280_97 : fetch 280 97 = some (.aload_n 0, 1) := by decide +kernel
theorem zf280_98 : fetch 280 98 = some (.getfield 83, 3) := by decide +kernel
theorem zf280_101 : fetch 280 101 = some (.arraylength, 1) := by decide +kernel
theorem zf280_102 : fetch 280 102 = some (.if_icmp .ge 17, 3) := by decide +kernel
theorem zf280_119 : fetch 280 119 = some (.iconst 0, 1) := by decide +kernel
theorem zf280_120 : fetch 280 120 = some (.istore 8, 2) := by decide +kernel
theorem zf280_122 : fetch 280 122 = some (.iconst 0, 1) := by decide +kernel
theorem zf280_123 : fetch 280 123 = some (.istore 9, 2) := by decide +kernel
theorem zf280_105 : fetch 280 105 = some (.aload_n 0, 1) := by decide +kernel
theorem zf280_106 : fetch 280 106 = some (.getfield 83, 3) := by decide +kernel
theorem zf280_109 : fetch 280 109 = some (.iload 8, 2) := by decide +kernel
theorem zf280_111 : fetch 280 111 = some (.iconst 0, 1) := by decide +kernel
theorem zf280_112 : fetch 280 112 = some (.iastore, 1) := by decide +kernel
theorem zf280_113 : fetch 280 113 = some (.iinc 8 1, 3) := by decide +kernel
theorem zf280_116 : fetch 280 116 = some (.goto (-21), 3) := by decide +kernel
theorem zf282_31 : fetch 282 31 = some (.iload 6, 2) := by decide +kernel
theorem zf282_33 : fetch 282 33 = some (.aload_n 0, 1) := by decide +kernel
theorem zf282_34 : fetch 282 34 = some (.getfield 294, 3) := by decide +kernel
theorem zf282_37 : fetch 282 37 = some (.if_icmp .ge 42, 3) := by decide +kernel
theorem zf282_79 : fetch 282 79 = some (.iinc 5 1, 3) := by decide +kernel
theorem zf282_82 : fetch 282 82 = some (.goto (-63), 3) := by decide +kernel
theorem zf282_40 : fetch 282 40 = some (.iload_n 3, 1) := by decide +kernel
theorem zf282_41 : fetch 282 41 = some (.iload 5, 2) := by decide +kernel
theorem zf282_43 : fetch 282 43 = some (.invokestatic 229, 3) := by decide +kernel
theorem zf282_46 : fetch 282 46 = some (.ifCond .eq 33, 3) := by decide +kernel
theorem zf282_49 : fetch 282 49 = some (.iload 6, 2) := by decide +kernel
theorem zf282_51 : fetch 282 51 = some (.iload_n 2, 1) := by decide +kernel
theorem zf282_52 : fetch 282 52 = some (.if_icmp .eq 21, 3) := by decide +kernel
theorem zf282_73 : fetch 282 73 = some (.iinc 6 1, 3) := by decide +kernel
theorem zf282_76 : fetch 282 76 = some (.goto (-45), 3) := by decide +kernel
theorem zf282_55 : fetch 282 55 = some (.aload_n 0, 1) := by decide +kernel
theorem zf282_56 : fetch 282 56 = some (.iload 5, 2) := by decide +kernel
theorem zf282_58 : fetch 282 58 = some (.iload 6, 2) := by decide +kernel
theorem zf282_60 : fetch 282 60 = some (.invokevirtual 494, 3) := by decide +kernel
theorem zf282_63 : fetch 282 63 = some (.ifCond .eq 10, 3) := by decide +kernel
theorem zf282_66 : fetch 282 66 = some (.iload_n 3, 1) := by decide +kernel
theorem zf282_67 : fetch 282 67 = some (.iconst 1, 1) := by decide +kernel
theorem zf282_68 : fetch 282 68 = some (.iload 6, 2) := by decide +kernel
theorem zf282_70 : fetch 282 70 = some (.ishl, 1) := by decide +kernel
theorem zf282_71 : fetch 282 71 = some (.ior, 1) := by decide +kernel
theorem zf282_72 : fetch 282 72 = some (.istore_n 3, 1) := by decide +kernel
theorem zf292_5 : fetch 292 5 = some (.iload 4, 2) := by decide +kernel
theorem zf292_7 : fetch 292 7 = some (.aload_n 0, 1) := by decide +kernel
theorem zf292_8 : fetch 292 8 = some (.getfield 306, 3) := by decide +kernel
theorem zf292_11 : fetch 292 11 = some (.if_icmp .ge 53, 3) := by decide +kernel
theorem zf292_64 : fetch 292 64 = some (.lload_n 2, 1) := by decide +kernel
theorem zf292_65 : fetch 292 65 = some (.lreturn, 1) := by decide +kernel
theorem zf292_14 : fetch 292 14 = some (.aload_n 0, 1) := by decide +kernel
theorem zf292_15 : fetch 292 15 = some (.getfield 86, 3) := by decide +kernel
theorem zf292_18 : fetch 292 18 = some (.iload 4, 2) := by decide +kernel
theorem zf292_20 : fetch 292 20 = some (.iaload, 1) := by decide +kernel
theorem zf292_21 : fetch 292 21 = some (.iload_n 1, 1) := by decide +kernel
theorem zf292_22 : fetch 292 22 = some (.if_icmp .ne 8, 3) := by decide +kernel
theorem zf292_30 : fetch 292 30 = some (.iconst 3, 1) := by decide +kernel
theorem zf292_25 : fetch 292 25 = some (.bipush 8, 2) := by decide +kernel
theorem zf292_27 : fetch 292 27 = some (.goto 4, 3) := by decide +kernel
theorem zf7_54 : fetch 7 54 = some (.iload_n 1, 1) := by decide +kernel
theorem zf7_55 : fetch 7 55 = some (.bipush 102, 2) := by decide +kernel
theorem zf7_57 : fetch 7 57 = some (.if_icmp .ne 67, 3) := by decide +kernel
theorem zf7_60 : fetch 7 60 = some (.aload_n 0, 1) := by decide +kernel
theorem zf7_61 : fetch 7 61 = some (.getfield 12, 3) := by decide +kernel
theorem zf7_64 : fetch 7 64 = some (.getfield 36, 3) := by decide +kernel
theorem zf7_67 : fetch 7 67 = some (.bipush 8, 2) := by decide +kernel
theorem zf7_69 : fetch 7 69 = some (.if_icmp .ge 55, 3) := by decide +kernel
theorem zf7_72 : fetch 7 72 = some (.aload_n 0, 1) := by decide +kernel
theorem zf7_73 : fetch 7 73 = some (.getfield 18, 3) := by decide +kernel
theorem zf7_76 : fetch 7 76 = some (.dup, 1) := by decide +kernel
theorem zf7_77 : fetch 7 77 = some (.getfield 22, 3) := by decide +kernel
theorem zf7_80 : fetch 7 80 = some (.iconst 1, 1) := by decide +kernel
theorem zf7_81 : fetch 7 81 = some (.iadd, 1) := by decide +kernel
theorem zf7_82 : fetch 7 82 = some (.putfield 22, 3) := by decide +kernel
theorem zf7_85 : fetch 7 85 = some (.aload_n 0, 1) := by decide +kernel
theorem zf7_86 : fetch 7 86 = some (.getfield 12, 3) := by decide +kernel
theorem zf7_89 : fetch 7 89 = some (.getfield 36, 3) := by decide +kernel
theorem zf7_92 : fetch 7 92 = some (.iconst 3, 1) := by decide +kernel
theorem zf7_93 : fetch 7 93 = some (.imul, 1) := by decide +kernel
theorem zf7_94 : fetch 7 94 = some (.istore_n 2, 1) := by decide +kernel
theorem zf7_95 : fetch 7 95 = some (.aload_n 0, 1) := by decide +kernel
theorem zf7_96 : fetch 7 96 = some (.getfield 12, 3) := by decide +kernel
theorem zf7_99 : fetch 7 99 = some (.dup, 1) := by decide +kernel
theorem zf7_100 : fetch 7 100 = some (.getfield 36, 3) := by decide +kernel
theorem zf7_103 : fetch 7 103 = some (.iconst 1, 1) := by decide +kernel
theorem zf7_104 : fetch 7 104 = some (.iadd, 1) := by decide +kernel
theorem zf7_105 : fetch 7 105 = some (.putfield 36, 3) := by decide +kernel
theorem zf7_108 : fetch 7 108 = some (.aload_n 0, 1) := by decide +kernel
theorem zf7_109 : fetch 7 109 = some (.aload_n 0, 1) := by decide +kernel
theorem zf7_110 : fetch 7 110 = some (.getfield 12, 3) := by decide +kernel
theorem zf7_113 : fetch 7 113 = some (.getfield 73, 3) := by decide +kernel
theorem zf7_116 : fetch 7 116 = some (.iload_n 2, 1) := by decide +kernel
theorem zf7_117 : fetch 7 117 = some (.iconst 4, 1) := by decide +kernel
theorem zf7_118 : fetch 7 118 = some (.bipush 7, 2) := by decide +kernel
theorem zf7_120 : fetch 7 120 = some (.invokevirtual 69, 3) := by decide +kernel
theorem zf7_123 : fetch 7 123 = some (.ireturn, 1) := by decide +kernel
theorem zf9_0 : fetch 9 0 = some (.getstatic 42, 3) := by decide +kernel
theorem zf9_3 : fetch 9 3 = some (.iload_n 3, 1) := by decide +kernel
theorem zf9_4 : fetch 9 4 = some (.aload_n 1, 1) := by decide +kernel
theorem zf9_5 : fetch 9 5 = some (.iload_n 2, 1) := by decide +kernel
theorem zf9_6 : fetch 9 6 = some (.iload 4, 2) := by decide +kernel
theorem zf9_8 : fetch 9 8 = some (.iload_n 3, 1) := by decide +kernel
theorem zf9_9 : fetch 9 9 = some (.isub, 1) := by decide +kernel
theorem zf9_10 : fetch 9 10 = some (.invokestatic 49, 3) := by decide +kernel
theorem zf9_13 : fetch 9 13 = some (.iconst 0, 1) := by decide +kernel
theorem zf9_14 : fetch 9 14 = some (.istore 5, 2) := by decide +kernel
theorem zf9_16 : fetch 9 16 = some (.iconst 0, 1) := by decide +kernel
theorem zf9_17 : fetch 9 17 = some (.istore 6, 2) := by decide +kernel
theorem zf17_20 : fetch 17 20 = some (.iload_n 1, 1) := by decide +kernel
theorem zf17_21 : fetch 17 21 = some (.aload_n 0, 1) := by decide +kernel
theorem zf17_22 : fetch 17 22 = some (.getfield 27, 3) := by decide +kernel
theorem zf17_25 : fetch 17 25 = some (.if_icmp .ge 37, 3) := by decide +kernel
theorem zf17_62 : fetch 17 62 = some (.iconst 0, 1) := by decide +kernel
theorem zf17_63 : fetch 17 63 = some (.istore_n 1, 1) := by decide +kernel
theorem zf17_28 : fetch 17 28 = some (.iconst 0, 1) := by decide +kernel
theorem zf17_29 : fetch 17 29 = some (.istore_n 2, 1) := by decide +kernel
theorem zf23_93 : fetch 23 93 = some (.aload_n 0, 1) := by decide +kernel
theorem zf23_94 : fetch 23 94 = some (.iconst 0, 1) := by decide +kernel
theorem zf23_95 : fetch 23 95 = some (.iload_n 2, 1) := by decide +kernel
theorem zf23_96 : fetch 23 96 = some (.invokevirtual 54, 3) := by decide +kernel
theorem zf23_99 : fetch 23 99 = some (.ifCond .eq 15, 3) := by decide +kernel
theorem zf23_114 : fetch 23 114 = some (.iconst 0, 1) := by decide +kernel
theorem zf23_115 : fetch 23 115 = some (.ireturn, 1) := by decide +kernel
theorem zf23_102 : fetch 23 102 = some (.aload_n 0, 1) := by decide +kernel
theorem zf23_103 : fetch 23 103 = some (.getfield 17, 3) := by decide +kernel
theorem zf23_106 : fetch 23 106 = some (.bipush 63, 2) := by decide +kernel
theorem zf23_108 : fetch 23 108 = some (.invokevirtual 36, 3) := by decide +kernel
theorem zf23_111 : fetch 23 111 = some (.ifCond .ne 5, 3) := by decide +kernel
theorem zf23_116 : fetch 23 116 = some (.aload_n 0, 1) := by decide +kernel
theorem zf23_117 : fetch 23 117 = some (.getfield 25, 3) := by decide +kernel
theorem zf23_120 : fetch 23 120 = some (.istore_n 3, 1) := by decide +kernel
theorem zf23_121 : fetch 23 121 = some (.aload_n 0, 1) := by decide +kernel
theorem zf23_122 : fetch 23 122 = some (.bipush 12, 2) := by decide +kernel
theorem zf23_124 : fetch 23 124 = some (.iconst 0, 1) := by decide +kernel
theorem zf23_125 : fetch 23 125 = some (.invokevirtual 50, 3) := by decide +kernel
theorem zf23_128 : fetch 23 128 = some (.aload_n 0, 1) := by decide +kernel
theorem zf23_129 : fetch 23 129 = some (.iconst 0, 1) := by decide +kernel
theorem zf23_130 : fetch 23 130 = some (.invokevirtual 40, 3) := by decide +kernel
theorem zf23_133 : fetch 23 133 = some (.ifCond .ne 5, 3) := by decide +kernel
theorem zf23_138 : fetch 23 138 = some (.aload_n 0, 1) := by decide +kernel
theorem zf23_139 : fetch 23 139 = some (.bipush 13, 2) := by decide +kernel
theorem zf23_141 : fetch 23 141 = some (.iconst 0, 1) := by decide +kernel
theorem zf23_142 : fetch 23 142 = some (.invokevirtual 50, 3) := by decide +kernel
theorem zf23_145 : fetch 23 145 = some (.iload_n 3, 1) := by decide +kernel
theorem zf23_146 : fetch 23 146 = some (.aload_n 0, 1) := by decide +kernel
theorem zf23_147 : fetch 23 147 = some (.getfield 11, 3) := by decide +kernel
theorem zf23_150 : fetch 23 150 = some (.arraylength, 1) := by decide +kernel
theorem zf23_151 : fetch 23 151 = some (.if_icmp .ge 19, 3) := by decide +kernel
theorem zf23_170 : fetch 23 170 = some (.iconst 1, 1) := by decide +kernel
theorem zf23_171 : fetch 23 171 = some (.ireturn, 1) := by decide +kernel
theorem zf23_154 : fetch 23 154 = some (.aload_n 0, 1) := by decide +kernel
theorem zf23_155 : fetch 23 155 = some (.getfield 11, 3) := by decide +kernel
theorem zf23_158 : fetch 23 158 = some (.iload_n 3, 1) := by decide +kernel
theorem zf23_159 : fetch 23 159 = some (.aload_n 0, 1) := by decide +kernel
theorem zf23_160 : fetch 23 160 = some (.getfield 25, 3) := by decide +kernel
theorem zf23_163 : fetch 23 163 = some (.bipush 16, 2) := by decide +kernel
theorem zf23_165 : fetch 23 165 = some (.imul, 1) := by decide +kernel
theorem zf23_166 : fetch 23 166 = some (.bipush 12, 2) := by decide +kernel
theorem zf23_168 : fetch 23 168 = some (.iadd, 1) := by decide +kernel
theorem zf23_169 : fetch 23 169 = some (.iastore, 1) := by decide +kernel
theorem zf23_136 : fetch 23 136 = some (.iconst 0, 1) := by decide +kernel
theorem zf23_137 : fetch 23 137 = some (.ireturn, 1) := by decide +kernel
theorem zf35_0 : fetch 35 0 = some (.iload_n 0, 1) := by decide +kernel
theorem zf35_1 : fetch 35 1 = some (.tableswitch 36 60 62 #[30, 27, 33], 27) := by decide +kernel
theorem zf35_31 : fetch 35 31 = some (.bipush 7, 2) := by decide +kernel
theorem zf35_33 : fetch 35 33 = some (.ireturn, 1) := by decide +kernel
theorem zf35_28 : fetch 35 28 = some (.bipush 6, 2) := by decide +kernel
theorem zf35_30 : fetch 35 30 = some (.ireturn, 1) := by decide +kernel
theorem zf35_34 : fetch 35 34 = some (.bipush 8, 2) := by decide +kernel
theorem zf35_36 : fetch 35 36 = some (.ireturn, 1) := by decide +kernel
theorem zf35_37 : fetch 35 37 = some (.iconst (-1), 1) := by decide +kernel
theorem zf35_38 : fetch 35 38 = some (.ireturn, 1) := by decide +kernel
theorem zf33_0 : fetch 33 0 = some (.aload_n 0, 1) := by decide +kernel
theorem zf33_1 : fetch 33 1 = some (.getfield 25, 3) := by decide +kernel
theorem zf33_4 : fetch 33 4 = some (.aload_n 0, 1) := by decide +kernel
theorem zf33_5 : fetch 33 5 = some (.getfield 11, 3) := by decide +kernel
theorem zf33_8 : fetch 33 8 = some (.arraylength, 1) := by decide +kernel
theorem zf33_9 : fetch 33 9 = some (.if_icmp .ge 28, 3) := by decide +kernel
theorem zf33_37 : fetch 33 37 = some (.return_, 1) := by decide +kernel
theorem zf33_12 : fetch 33 12 = some (.aload_n 0, 1) := by decide +kernel
theorem zf33_13 : fetch 33 13 = some (.getfield 11, 3) := by decide +kernel
theorem zf33_16 : fetch 33 16 = some (.aload_n 0, 1) := by decide +kernel
theorem zf33_17 : fetch 33 17 = some (.getfield 25, 3) := by decide +kernel
theorem zf33_20 : fetch 33 20 = some (.iload_n 2, 1) := by decide +kernel
theorem zf33_21 : fetch 33 21 = some (.bipush 16, 2) := by decide +kernel
theorem zf33_23 : fetch 33 23 = some (.imul, 1) := by decide +kernel
theorem zf33_24 : fetch 33 24 = some (.iload_n 1, 1) := by decide +kernel
theorem zf33_25 : fetch 33 25 = some (.iadd, 1) := by decide +kernel
theorem zf33_26 : fetch 33 26 = some (.iastore, 1) := by decide +kernel
theorem zf33_27 : fetch 33 27 = some (.aload_n 0, 1) := by decide +kernel
theorem zf33_28 : fetch 33 28 = some (.dup, 1) := by decide +kernel
theorem zf33_29 : fetch 33 29 = some (.getfield 25, 3) := by decide +kernel
theorem zf33_32 : fetch 33 32 = some (.iconst 1, 1) := by decide +kernel
theorem zf33_33 : fetch 33 33 = some (.iadd, 1) := by decide +kernel
theorem zf33_34 : fetch 33 34 = some (.putfield 25, 3) := by decide +kernel
theorem zf24_0 : fetch 24 0 = some (.iconst (-1), 1) := by decide +kernel
theorem zf24_1 : fetch 24 1 = some (.istore_n 2, 1) := by decide +kernel
theorem zf24_2 : fetch 24 2 = some (.aload_n 0, 1) := by decide +kernel
theorem zf24_3 : fetch 24 3 = some (.iload_n 1, 1) := by decide +kernel
theorem zf24_4 : fetch 24 4 = some (.invokevirtual 61, 3) := by decide +kernel
theorem zf24_7 : fetch 24 7 = some (.ifCond .ne 5, 3) := by decide +kernel
theorem zf24_12 : fetch 24 12 = some (.iconst 0, 1) := by decide +kernel
theorem zf24_13 : fetch 24 13 = some (.istore_n 3, 1) := by decide +kernel
theorem zf24_10 : fetch 24 10 = some (.iconst 0, 1) := by decide +kernel
theorem zf24_11 : fetch 24 11 = some (.ireturn, 1) := by decide +kernel
theorem zf42_0 : fetch 42 0 = some (.aload_n 0, 1) := by decide +kernel
theorem zf42_1 : fetch 42 1 = some (.invokevirtual 22, 3) := by decide +kernel
theorem zf42_4 : fetch 42 4 = some (.bipush 48, 2) := by decide +kernel
theorem zf42_6 : fetch 42 6 = some (.isub, 1) := by decide +kernel
theorem zf42_7 : fetch 42 7 = some (.istore_n 2, 1) := by decide +kernel
theorem zf42_8 : fetch 42 8 = some (.iload_n 2, 1) := by decide +kernel
theorem zf42_9 : fetch 42 9 = some (.ifCond .lt 8, 3) := by decide +kernel
theorem zf42_17 : fetch 42 17 = some (.iconst (-1), 1) := by decide +kernel
theorem zf42_18 : fetch 42 18 = some (.ireturn, 1) := by decide +kernel
theorem zf42_12 : fetch 42 12 = some (.iload_n 2, 1) := by decide +kernel
theorem zf42_13 : fetch 42 13 = some (.iload_n 1, 1) := by decide +kernel
theorem zf42_14 : fetch 42 14 = some (.if_icmp .le 5, 3) := by decide +kernel
theorem zf42_19 : fetch 42 19 = some (.aload_n 0, 1) := by decide +kernel
theorem zf42_20 : fetch 42 20 = some (.dup, 1) := by decide +kernel
theorem zf42_21 : fetch 42 21 = some (.getfield 19, 3) := by decide +kernel
theorem zf42_24 : fetch 42 24 = some (.iconst 1, 1) := by decide +kernel
theorem zf42_25 : fetch 42 25 = some (.iadd, 1) := by decide +kernel
theorem zf42_26 : fetch 42 26 = some (.putfield 19, 3) := by decide +kernel
theorem zf42_29 : fetch 42 29 = some (.iload_n 2, 1) := by decide +kernel
theorem zf42_30 : fetch 42 30 = some (.ireturn, 1) := by decide +kernel
theorem zf19_0 : fetch 19 0 = some (.aload_n 0, 1) := by decide +kernel
theorem zf19_1 : fetch 19 1 = some (.getfield 18, 3) := by decide +kernel
theorem zf19_4 : fetch 19 4 = some (.iload_n 1, 1) := by decide +kernel
theorem zf19_5 : fetch 19 5 = some (.iconst 3, 1) := by decide +kernel
theorem zf19_6 : fetch 19 6 = some (.imul, 1) := by decide +kernel
theorem zf19_7 : fetch 19 7 = some (.iconst 2, 1) := by decide +kernel
theorem zf19_8 : fetch 19 8 = some (.iadd, 1) := by decide +kernel
theorem zf19_9 : fetch 19 9 = some (.iaload, 1) := by decide +kernel
theorem zf19_10 : fetch 19 10 = some (.ireturn, 1) := by decide +kernel
theorem zf105_24 : fetch 105 24 = some (.iload 5, 2) := by decide +kernel
theorem zf105_26 : fetch 105 26 = some (.bipush 6, 2) := by decide +kernel
theorem zf105_28 : fetch 105 28 = some (.if_icmp .ge 42, 3) := by decide +kernel
theorem zf105_70 : fetch 105 70 = some (.iload 4, 2) := by decide +kernel
theorem zf105_72 : fetch 105 72 = some (.ireturn, 1) := by decide +kernel
theorem zf105_31 : fetch 105 31 = some (.iload_n 3, 1) := by decide +kernel
theorem zf105_32 : fetch 105 32 = some (.iload 5, 2) := by decide +kernel
theorem zf105_34 : fetch 105 34 = some (.ishr, 1) := by decide +kernel
theorem zf105_35 : fetch 105 35 = some (.iconst 1, 1) := by decide +kernel
theorem zf105_36 : fetch 105 36 = some (.iand, 1) := by decide +kernel
theorem zf105_37 : fetch 105 37 = some (.ifCond .eq 27, 3) := by decide +kernel
theorem zf105_64 : fetch 105 64 = some (.iinc 5 1, 3) := by decide +kernel
theorem zf105_67 : fetch 105 67 = some (.goto (-43), 3) := by decide +kernel
theorem zf105_40 : fetch 105 40 = some (.iload 4, 2) := by decide +kernel
theorem zf105_42 : fetch 105 42 = some (.invokestatic 271, 3) := by decide +kernel
theorem zf105_45 : fetch 105 45 = some (.aload_n 0, 1) := by decide +kernel
theorem zf105_46 : fetch 105 46 = some (.getfield 19, 3) := by decide +kernel
theorem zf105_49 : fetch 105 49 = some (.invokevirtual 165, 3) := by decide +kernel
theorem zf105_52 : fetch 105 52 = some (.if_icmp .ge 12, 3) := by decide +kernel
theorem zf105_55 : fetch 105 55 = some (.iload 4, 2) := by decide +kernel
theorem zf105_57 : fetch 105 57 = some (.iconst 1, 1) := by decide +kernel
theorem zf105_58 : fetch 105 58 = some (.iload 5, 2) := by decide +kernel
theorem zf105_60 : fetch 105 60 = some (.ishl, 1) := by decide +kernel
theorem zf105_61 : fetch 105 61 = some (.ior, 1) := by decide +kernel
theorem zf105_62 : fetch 105 62 = some (.istore 4, 2) := by decide +kernel
theorem zf84_98 : fetch 84 98 = some (.aload_n 0, 1) := by decide +kernel
theorem zf84_99 : fetch 84 99 = some (.getfield 29, 3) := by decide +kernel
theorem zf84_102 : fetch 84 102 = some (.iload_n 2, 1) := by decide +kernel
theorem zf84_103 : fetch 84 103 = some (.iload 4, 2) := by decide +kernel
theorem zf84_105 : fetch 84 105 = some (.ifCond .ne 8, 3) := by decide +kernel
theorem zf84_113 : fetch 84 113 = some (.aload_n 0, 1) := by decide +kernel
theorem zf84_114 : fetch 84 114 = some (.getfield 9, 3) := by decide +kernel
theorem zf84_117 : fetch 84 117 = some (.iload 5, 2) := by decide +kernel
theorem zf84_119 : fetch 84 119 = some (.iaload, 1) := by decide +kernel
theorem zf84_120 : fetch 84 120 = some (.iastore, 1) := by decide +kernel
theorem zf84_121 : fetch 84 121 = some (.iinc 2 1, 3) := by decide +kernel
theorem zf84_124 : fetch 84 124 = some (.goto 129, 3) := by decide +kernel
theorem zf84_108 : fetch 84 108 = some (.iload 5, 2) := by decide +kernel
theorem zf84_110 : fetch 84 110 = some (.goto 10, 3) := by decide +kernel
theorem zf84_159 : fetch 84 159 = some (.iload 4, 2) := by decide +kernel
theorem zf84_161 : fetch 84 161 = some (.bipush 12, 2) := by decide +kernel
theorem zf84_163 : fetch 84 163 = some (.if_icmp .ne 35, 3) := by decide +kernel
theorem zf84_198 : fetch 84 198 = some (.iload 4, 2) := by decide +kernel
theorem zf84_200 : fetch 84 200 = some (.bipush 13, 2) := by decide +kernel
theorem zf84_202 : fetch 84 202 = some (.if_icmp .ne 16, 3) := by decide +kernel
theorem zf84_205 : fetch 84 205 = some (.iload_n 2, 1) := by decide +kernel
theorem zf84_206 : fetch 84 206 = some (.ifCond .le 12, 3) := by decide +kernel
theorem zf84_209 : fetch 84 209 = some (.aload_n 0, 1) := by decide +kernel
theorem zf84_210 : fetch 84 210 = some (.getfield 29, 3) := by decide +kernel
theorem zf84_213 : fetch 84 213 = some (.iload_n 2, 1) := by decide +kernel
theorem zf84_214 : fetch 84 214 = some (.iconst 1, 1) := by decide +kernel
theorem zf84_215 : fetch 84 215 = some (.isub, 1) := by decide +kernel
theorem zf84_216 : fetch 84 216 = some (.iaload, 1) := by decide +kernel
theorem zf84_217 : fetch 84 217 = some (.ireturn, 1) := by decide +kernel
theorem zf84_166 : fetch 84 166 = some (.iload_n 2, 1) := by decide +kernel
theorem zf84_167 : fetch 84 167 = some (.ifCond .le 31, 3) := by decide +kernel
theorem zf84_170 : fetch 84 170 = some (.iinc 2 (-1), 3) := by decide +kernel
theorem zf84_173 : fetch 84 173 = some (.aload_n 0, 1) := by decide +kernel
theorem zf84_174 : fetch 84 174 = some (.getfield 29, 3) := by decide +kernel
theorem zf84_177 : fetch 84 177 = some (.iload_n 2, 1) := by decide +kernel
theorem zf84_178 : fetch 84 178 = some (.iaload, 1) := by decide +kernel
theorem zf84_179 : fetch 84 179 = some (.ifCond .ne 14, 3) := by decide +kernel
theorem zf84_193 : fetch 84 193 = some (.iload_n 3, 1) := by decide +kernel
theorem zf84_194 : fetch 84 194 = some (.istore_n 3, 1) := by decide +kernel
theorem zf84_195 : fetch 84 195 = some (.goto 58, 3) := by decide +kernel
theorem zf84_182 : fetch 84 182 = some (.iload_n 3, 1) := by decide +kernel
theorem zf84_183 : fetch 84 183 = some (.iload 5, 2) := by decide +kernel
theorem zf84_185 : fetch 84 185 = some (.iconst 1, 1) := by decide +kernel
theorem zf84_186 : fetch 84 186 = some (.isub, 1) := by decide +kernel
theorem zf84_187 : fetch 84 187 = some (.invokestatic 45, 3) := by decide +kernel
theorem zf84_190 : fetch 84 190 = some (.goto 4, 3) := by decide +kernel
theorem zf126_69 : fetch 126 69 = some (.iload 7, 2) := by decide +kernel
theorem zf126_71 : fetch 126 71 = some (.bipush 20, 2) := by decide +kernel
theorem zf126_73 : fetch 126 73 = some (.if_icmp .gt 89, 3) := by decide +kernel
theorem zf126_162 : fetch 126 162 = some (.iinc 5 1, 3) := by decide +kernel
theorem zf126_165 : fetch 126 165 = some (.goto (-124), 3) := by decide +kernel
theorem zf126_76 : fetch 126 76 = some (.aload_n 0, 1) := by decide +kernel
theorem zf126_77 : fetch 126 77 = some (.iload_n 2, 1) := by decide +kernel
theorem zf126_78 : fetch 126 78 = some (.iload_n 3, 1) := by decide +kernel
theorem zf126_79 : fetch 126 79 = some (.iload 7, 2) := by decide +kernel
theorem zf126_81 : fetch 126 81 = some (.iload 6, 2) := by decide +kernel
theorem zf126_83 : fetch 126 83 = some (.aload_n 1, 1) := by decide +kernel
theorem zf126_84 : fetch 126 84 = some (.getfield 66, 3) := by decide +kernel
theorem zf126_87 : fetch 126 87 = some (.iconst 3, 1) := by decide +kernel
theorem zf126_88 : fetch 126 88 = some (.iaload, 1) := by decide +kernel
theorem zf126_89 : fetch 126 89 = some (.invokevirtual 75, 3) := by decide +kernel
theorem zf126_92 : fetch 126 92 = some (.istore 8, 2) := by decide +kernel
theorem zf126_94 : fetch 126 94 = some (.aload_n 0, 1) := by decide +kernel
theorem zf126_95 : fetch 126 95 = some (.getfield 20, 3) := by decide +kernel
theorem zf126_98 : fetch 126 98 = some (.aload_n 0, 1) := by decide +kernel
theorem zf126_99 : fetch 126 99 = some (.getfield 20, 3) := by decide +kernel
theorem zf126_102 : fetch 126 102 = some (.iload_n 3, 1) := by decide +kernel
theorem zf126_103 : fetch 126 103 = some (.invokevirtual 79, 3) := by decide +kernel
theorem zf126_106 : fetch 126 106 = some (.iload 8, 2) := by decide +kernel
theorem zf126_108 : fetch 126 108 = some (.iload 5, 2) := by decide +kernel
theorem zf126_110 : fetch 126 110 = some (.invokestatic 82, 3) := by decide +kernel
theorem zf126_113 : fetch 126 113 = some (.invokevirtual 89, 3) := by decide +kernel
theorem zf126_116 : fetch 126 116 = some (.istore 9, 2) := by decide +kernel
theorem zf126_118 : fetch 126 118 = some (.iload 9, 2) := by decide +kernel
theorem zf126_120 : fetch 126 120 = some (.iconst (-1), 1) := by decide +kernel
theorem zf126_121 : fetch 126 121 = some (.if_icmp .eq 35, 3) := by decide +kernel
theorem zf126_156 : fetch 126 156 = some (.iinc 7 1, 3) := by decide +kernel
theorem zf126_159 : fetch 126 159 = some (.goto (-90), 3) := by decide +kernel
theorem zf126_124 : fetch 126 124 = some (.iload 9, 2) := by decide +kernel
