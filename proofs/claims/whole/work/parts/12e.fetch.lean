/-! decode rows -/
theorem zf126_126 : fetch 126 126 = some (.iload_n 3, 1) := by decide +kernel
theorem zf126_127 : fetch 126 127 = some (.if_icmp .eq 29, 3) := by decide +kernel
theorem zf126_130 : fetch 126 130 = some (.aload_n 0, 1) := by decide +kernel
theorem zf126_131 : fetch 126 131 = some (.getfield 13, 3) := by decide +kernel
theorem zf126_134 : fetch 126 134 = some (.iload 4, 2) := by decide +kernel
theorem zf126_136 : fetch 126 136 = some (.iload 9, 2) := by decide +kernel
theorem zf126_138 : fetch 126 138 = some (.iadd, 1) := by decide +kernel
theorem zf126_139 : fetch 126 139 = some (.iaload, 1) := by decide +kernel
theorem zf126_140 : fetch 126 140 = some (.iconst (-1), 1) := by decide +kernel
theorem zf126_141 : fetch 126 141 = some (.if_icmp .ne 15, 3) := by decide +kernel
theorem zf126_144 : fetch 126 144 = some (.aload_n 0, 1) := by decide +kernel
theorem zf126_145 : fetch 126 145 = some (.getfield 13, 3) := by decide +kernel
theorem zf126_148 : fetch 126 148 = some (.iload 4, 2) := by decide +kernel
theorem zf126_150 : fetch 126 150 = some (.iload 9, 2) := by decide +kernel
theorem zf126_152 : fetch 126 152 = some (.iadd, 1) := by decide +kernel
theorem zf126_153 : fetch 126 153 = some (.iload 7, 2) := by decide +kernel
theorem zf126_155 : fetch 126 155 = some (.iastore, 1) := by decide +kernel
theorem zf128_97 : fetch 128 97 = some (.aload_n 0, 1) := by decide +kernel
theorem zf128_98 : fetch 128 98 = some (.getfield 11, 3) := by decide +kernel
theorem zf128_101 : fetch 128 101 = some (.iload 6, 2) := by decide +kernel
theorem zf128_103 : fetch 128 103 = some (.iaload, 1) := by decide +kernel
theorem zf128_104 : fetch 128 104 = some (.iload 4, 2) := by decide +kernel
theorem zf128_106 : fetch 128 106 = some (.iconst 1, 1) := by decide +kernel
theorem zf128_107 : fetch 128 107 = some (.isub, 1) := by decide +kernel
theorem zf128_108 : fetch 128 108 = some (.if_icmp .ne 19, 3) := by decide +kernel
theorem zf128_127 : fetch 128 127 = some (.iconst (-1), 1) := by decide +kernel
theorem zf128_111 : fetch 128 111 = some (.aload_n 0, 1) := by decide +kernel
theorem zf128_112 : fetch 128 112 = some (.getfield 33, 3) := by decide +kernel
theorem zf128_115 : fetch 128 115 = some (.aload_n 1, 1) := by decide +kernel
theorem zf128_116 : fetch 128 116 = some (.iload_n 2, 1) := by decide +kernel
theorem zf128_117 : fetch 128 117 = some (.iload 6, 2) := by decide +kernel
theorem zf128_119 : fetch 128 119 = some (.iload 5, 2) := by decide +kernel
theorem zf128_121 : fetch 128 121 = some (.invokevirtual 47, 3) := by decide +kernel
theorem zf128_124 : fetch 128 124 = some (.goto 4, 3) := by decide +kernel
theorem zf133_53 : fetch 133 53 = some (.iload 8, 2) := by decide +kernel
theorem zf133_55 : fetch 133 55 = some (.iload 6, 2) := by decide +kernel
theorem zf133_57 : fetch 133 57 = some (.if_icmp .ge 74, 3) := by decide +kernel
theorem zf133_131 : fetch 133 131 = some (.iinc 7 1, 3) := by decide +kernel
theorem zf133_134 : fetch 133 134 = some (.goto (-97), 3) := by decide +kernel
theorem zf133_60 : fetch 133 60 = some (.aload_n 1, 1) := by decide +kernel
theorem zf133_61 : fetch 133 61 = some (.getfield 57, 3) := by decide +kernel
theorem zf133_64 : fetch 133 64 = some (.bipush 16, 2) := by decide +kernel
theorem zf133_66 : fetch 133 66 = some (.iload 7, 2) := by decide +kernel
theorem zf133_68 : fetch 133 68 = some (.iadd, 1) := by decide +kernel
theorem zf133_69 : fetch 133 69 = some (.iaload, 1) := by decide +kernel
theorem zf133_70 : fetch 133 70 = some (.ifCond .ne 55, 3) := by decide +kernel
theorem zf133_125 : fetch 133 125 = some (.iinc 8 1, 3) := by decide +kernel
theorem zf133_128 : fetch 133 128 = some (.goto (-75), 3) := by decide +kernel
theorem zf133_73 : fetch 133 73 = some (.aload_n 0, 1) := by decide +kernel
theorem zf133_74 : fetch 133 74 = some (.getfield 33, 3) := by decide +kernel
theorem zf133_77 : fetch 133 77 = some (.aload_n 1, 1) := by decide +kernel
theorem zf133_78 : fetch 133 78 = some (.iload 7, 2) := by decide +kernel
theorem zf133_80 : fetch 133 80 = some (.aload_n 0, 1) := by decide +kernel
theorem zf133_81 : fetch 133 81 = some (.getfield 26, 3) := by decide +kernel
theorem zf133_84 : fetch 133 84 = some (.iload 7, 2) := by decide +kernel
theorem zf133_86 : fetch 133 86 = some (.iaload, 1) := by decide +kernel
theorem zf133_87 : fetch 133 87 = some (.iload 8, 2) := by decide +kernel
theorem zf133_89 : fetch 133 89 = some (.invokevirtual 47, 3) := by decide +kernel
theorem zf133_92 : fetch 133 92 = some (.iconst (-1), 1) := by decide +kernel
theorem zf133_93 : fetch 133 93 = some (.if_icmp .eq 32, 3) := by decide +kernel
theorem zf133_96 : fetch 133 96 = some (.aload_n 0, 1) := by decide +kernel
theorem zf133_97 : fetch 133 97 = some (.aload_n 1, 1) := by decide +kernel
theorem zf133_98 : fetch 133 98 = some (.bipush 10, 2) := by decide +kernel
theorem zf133_100 : fetch 133 100 = some (.iload 7, 2) := by decide +kernel
theorem zf133_102 : fetch 133 102 = some (.imul, 1) := by decide +kernel
theorem zf133_103 : fetch 133 103 = some (.iload 8, 2) := by decide +kernel
theorem zf133_105 : fetch 133 105 = some (.iadd, 1) := by decide +kernel
theorem zf133_106 : fetch 133 106 = some (.iload_n 2, 1) := by decide +kernel
theorem zf133_107 : fetch 133 107 = some (.iload_n 3, 1) := by decide +kernel
theorem zf133_108 : fetch 133 108 = some (.iload 4, 2) := by decide +kernel
theorem zf133_110 : fetch 133 110 = some (.invokevirtual 74, 3) := by decide +kernel
theorem zf133_113 : fetch 133 113 = some (.ifCond .eq 12, 3) := by decide +kernel
theorem zf133_116 : fetch 133 116 = some (.bipush 10, 2) := by decide +kernel
theorem zf133_118 : fetch 133 118 = some (.iload 7, 2) := by decide +kernel
theorem zf133_120 : fetch 133 120 = some (.imul, 1) := by decide +kernel
theorem zf133_121 : fetch 133 121 = some (.iload 8, 2) := by decide +kernel
theorem zf133_123 : fetch 133 123 = some (.iadd, 1) := by decide +kernel
theorem zf133_124 : fetch 133 124 = some (.ireturn, 1) := by decide +kernel
theorem zf152_0 : fetch 152 0 = some (.aload_n 0, 1) := by decide +kernel
theorem zf152_1 : fetch 152 1 = some (.getfield 34, 3) := by decide +kernel
theorem zf152_4 : fetch 152 4 = some (.iload_n 2, 1) := by decide +kernel
theorem zf152_5 : fetch 152 5 = some (.iload_n 3, 1) := by decide +kernel
theorem zf152_6 : fetch 152 6 = some (.iload 4, 2) := by decide +kernel
theorem zf152_8 : fetch 152 8 = some (.iload_n 1, 1) := by decide +kernel
theorem zf152_9 : fetch 152 9 = some (.bipush 10, 2) := by decide +kernel
theorem zf152_11 : fetch 152 11 = some (.irem, 1) := by decide +kernel
theorem zf152_12 : fetch 152 12 = some (.iload_n 1, 1) := by decide +kernel
theorem zf152_13 : fetch 152 13 = some (.bipush 10, 2) := by decide +kernel
theorem zf152_15 : fetch 152 15 = some (.idiv, 1) := by decide +kernel
theorem zf152_16 : fetch 152 16 = some (.iload 5, 2) := by decide +kernel
theorem zf152_18 : fetch 152 18 = some (.invokestatic 66, 3) := by decide +kernel
theorem zf152_21 : fetch 152 21 = some (.iconst 0, 1) := by decide +kernel
theorem zf152_22 : fetch 152 22 = some (.invokevirtual 69, 3) := by decide +kernel
theorem zf152_25 : fetch 152 25 = some (.ireturn, 1) := by decide +kernel
theorem zf155_14 : fetch 155 14 = some (.iload 6, 2) := by decide +kernel
theorem zf155_16 : fetch 155 16 = some (.aload_n 0, 1) := by decide +kernel
theorem zf155_17 : fetch 155 17 = some (.getfield 45, 3) := by decide +kernel
theorem zf155_20 : fetch 155 20 = some (.if_icmp .ge 52, 3) := by decide +kernel
theorem zf155_72 : fetch 155 72 = some (.iload 5, 2) := by decide +kernel
theorem zf155_74 : fetch 155 74 = some (.ireturn, 1) := by decide +kernel
theorem zf155_23 : fetch 155 23 = some (.aload_n 0, 1) := by decide +kernel
theorem zf155_24 : fetch 155 24 = some (.aload_n 0, 1) := by decide +kernel
theorem zf155_25 : fetch 155 25 = some (.getfield 11, 3) := by decide +kernel
theorem zf155_28 : fetch 155 28 = some (.iload 6, 2) := by decide +kernel
theorem zf155_30 : fetch 155 30 = some (.iaload, 1) := by decide +kernel
theorem zf155_31 : fetch 155 31 = some (.iload_n 1, 1) := by decide +kernel
theorem zf155_32 : fetch 155 32 = some (.iload_n 2, 1) := by decide +kernel
theorem zf155_33 : fetch 155 33 = some (.iload_n 3, 1) := by decide +kernel
theorem zf155_34 : fetch 155 34 = some (.iload 4, 2) := by decide +kernel
theorem zf155_36 : fetch 155 36 = some (.invokevirtual 52, 3) := by decide +kernel
theorem zf155_39 : fetch 155 39 = some (.istore 7, 2) := by decide +kernel
theorem zf155_41 : fetch 155 41 = some (.aload_n 0, 1) := by decide +kernel
theorem zf155_42 : fetch 155 42 = some (.getfield 20, 3) := by decide +kernel
theorem zf155_45 : fetch 155 45 = some (.iload 7, 2) := by decide +kernel
theorem zf155_47 : fetch 155 47 = some (.dup2, 1) := by decide +kernel
theorem zf155_48 : fetch 155 48 = some (.iaload, 1) := by decide +kernel
theorem zf155_49 : fetch 155 49 = some (.iconst 1, 1) := by decide +kernel
theorem zf155_50 : fetch 155 50 = some (.iadd, 1) := by decide +kernel
theorem zf155_51 : fetch 155 51 = some (.iastore, 1) := by decide +kernel
theorem zf155_52 : fetch 155 52 = some (.iload 5, 2) := by decide +kernel
theorem zf155_54 : fetch 155 54 = some (.aload_n 0, 1) := by decide +kernel
theorem zf155_55 : fetch 155 55 = some (.getfield 20, 3) := by decide +kernel
theorem zf155_58 : fetch 155 58 = some (.iload 7, 2) := by decide +kernel
theorem zf155_60 : fetch 155 60 = some (.iaload, 1) := by decide +kernel
theorem zf155_61 : fetch 155 61 = some (.invokestatic 82, 3) := by decide +kernel
theorem zf155_64 : fetch 155 64 = some (.istore 5, 2) := by decide +kernel
theorem zf155_66 : fetch 155 66 = some (.iinc 6 1, 3) := by decide +kernel
theorem zf155_69 : fetch 155 69 = some (.goto (-55), 3) := by decide +kernel
theorem zf161_30 : fetch 161 30 = some (.istore 5, 2) := by decide +kernel
theorem zf161_32 : fetch 161 32 = some (.aload_n 0, 1) := by decide +kernel
theorem zf161_33 : fetch 161 33 = some (.getfield 26, 3) := by decide +kernel
theorem zf161_36 : fetch 161 36 = some (.iload 4, 2) := by decide +kernel
theorem zf161_38 : fetch 161 38 = some (.baload, 1) := by decide +kernel
theorem zf161_39 : fetch 161 39 = some (.ifCond .eq 23, 3) := by decide +kernel
theorem zf161_62 : fetch 161 62 = some (.lload_n 2, 1) := by decide +kernel
theorem zf161_63 : fetch 161 63 = some (.iload 5, 2) := by decide +kernel
theorem zf161_65 : fetch 161 65 = some (.ifCond .eq 9, 3) := by decide +kernel
theorem zf161_74 : fetch 161 74 = some (.ldc2_w 103, 3) := by decide +kernel
theorem zf161_77 : fetch 161 77 = some (.lmul, 1) := by decide +kernel
theorem zf161_78 : fetch 161 78 = some (.lstore_n 2, 1) := by decide +kernel
theorem zf161_79 : fetch 161 79 = some (.iinc 4 1, 3) := by decide +kernel
theorem zf161_82 : fetch 161 82 = some (.goto (-77), 3) := by decide +kernel
theorem zf161_68 : fetch 161 68 = some (.ldc2_w 101, 3) := by decide +kernel
theorem zf161_71 : fetch 161 71 = some (.goto 6, 3) := by decide +kernel
theorem zf161_42 : fetch 161 42 = some (.lload_n 2, 1) := by decide +kernel
theorem zf161_43 : fetch 161 43 = some (.iload 5, 2) := by decide +kernel
theorem zf161_45 : fetch 161 45 = some (.ifCond .eq 9, 3) := by decide +kernel
theorem zf161_54 : fetch 161 54 = some (.ldc2_w 99, 3) := by decide +kernel
theorem zf161_57 : fetch 161 57 = some (.lmul, 1) := by decide +kernel
theorem zf161_58 : fetch 161 58 = some (.lstore_n 2, 1) := by decide +kernel
theorem zf161_59 : fetch 161 59 = some (.goto 20, 3) := by decide +kernel
theorem zf161_48 : fetch 161 48 = some (.ldc2_w 97, 3) := by decide +kernel
theorem zf161_51 : fetch 161 51 = some (.goto 6, 3) := by decide +kernel
theorem zf188_43 : fetch 188 43 = some (.aload_n 0, 1) := by decide +kernel
theorem zf188_44 : fetch 188 44 = some (.getfield 119, 3) := by decide +kernel
theorem zf188_47 : fetch 188 47 = some (.aload_n 0, 1) := by decide +kernel
theorem zf188_48 : fetch 188 48 = some (.getfield 122, 3) := by decide +kernel
theorem zf188_51 : fetch 188 51 = some (.if_icmp .ge 24, 3) := by decide +kernel
theorem zf188_75 : fetch 188 75 = some (.iconst (-1), 1) := by decide +kernel
theorem zf188_76 : fetch 188 76 = some (.ireturn, 1) := by decide +kernel
theorem zf188_54 : fetch 188 54 = some (.aload_n 0, 1) := by decide +kernel
theorem zf188_55 : fetch 188 55 = some (.getfield 23, 3) := by decide +kernel
theorem zf188_58 : fetch 188 58 = some (.aload_n 0, 1) := by decide +kernel
theorem zf188_59 : fetch 188 59 = some (.getfield 125, 3) := by decide +kernel
theorem zf188_62 : fetch 188 62 = some (.aload_n 0, 1) := by decide +kernel
theorem zf188_63 : fetch 188 63 = some (.getfield 119, 3) := by decide +kernel
theorem zf188_66 : fetch 188 66 = some (.iadd, 1) := by decide +kernel
theorem zf188_67 : fetch 188 67 = some (.baload, 1) := by decide +kernel
theorem zf188_68 : fetch 188 68 = some (.sipush 255, 3) := by decide +kernel
theorem zf188_71 : fetch 188 71 = some (.iand, 1) := by decide +kernel
theorem zf188_72 : fetch 188 72 = some (.goto 4, 3) := by decide +kernel
theorem zf191_0 : fetch 191 0 = some (.iconst 0, 1) := by decide +kernel
theorem zf191_1 : fetch 191 1 = some (.istore_n 2, 1) := by decide +kernel
theorem zf215_0 : fetch 215 0 = some (.aload_n 0, 1) := by decide +kernel
theorem zf215_1 : fetch 215 1 = some (.invokevirtual 138, 3) := by decide +kernel
theorem zf215_4 : fetch 215 4 = some (.istore_n 2, 1) := by decide +kernel
theorem zf215_5 : fetch 215 5 = some (.aload_n 0, 1) := by decide +kernel
theorem zf215_6 : fetch 215 6 = some (.invokevirtual 168, 3) := by decide +kernel
theorem zf215_9 : fetch 215 9 = some (.ifCond .eq 11, 3) := by decide +kernel
theorem zf215_20 : fetch 215 20 = some (.aload_n 0, 1) := by decide +kernel
theorem zf215_21 : fetch 215 21 = some (.invokevirtual 134, 3) := by decide +kernel
theorem zf215_24 : fetch 215 24 = some (.pop, 1) := by decide +kernel
theorem zf215_25 : fetch 215 25 = some (.iconst 0, 1) := by decide +kernel
theorem zf215_26 : fetch 215 26 = some (.ireturn, 1) := by decide +kernel
theorem zf215_12 : fetch 215 12 = some (.iload_n 2, 1) := by decide +kernel
theorem zf215_13 : fetch 215 13 = some (.bipush 48, 2) := by decide +kernel
theorem zf215_15 : fetch 215 15 = some (.isub, 1) := by decide +kernel
theorem zf215_16 : fetch 215 16 = some (.iload_n 1, 1) := by decide +kernel
theorem zf215_17 : fetch 215 17 = some (.if_icmp .le 10, 3) := by decide +kernel
theorem zf215_27 : fetch 215 27 = some (.aload_n 0, 1) := by decide +kernel
theorem zf215_28 : fetch 215 28 = some (.dup, 1) := by decide +kernel
theorem zf215_29 : fetch 215 29 = some (.getfield 119, 3) := by decide +kernel
theorem zf215_32 : fetch 215 32 = some (.iconst 1, 1) := by decide +kernel
theorem zf215_33 : fetch 215 33 = some (.iadd, 1) := by decide +kernel
theorem zf215_34 : fetch 215 34 = some (.putfield 119, 3) := by decide +kernel
theorem zf215_37 : fetch 215 37 = some (.iload_n 2, 1) := by decide +kernel
theorem zf215_38 : fetch 215 38 = some (.bipush 48, 2) := by decide +kernel
theorem zf215_40 : fetch 215 40 = some (.isub, 1) := by decide +kernel
theorem zf215_41 : fetch 215 41 = some (.ireturn, 1) := by decide +kernel
theorem zf214_104 : fetch 214 104 = some (.invokevirtual 269, 3) := by decide +kernel
theorem zf214_107 : fetch 214 107 = some (.iastore, 1) := by decide +kernel
theorem zf214_108 : fetch 214 108 = some (.aload_n 0, 1) := by decide +kernel
theorem zf214_109 : fetch 214 109 = some (.getfield 128, 3) := by decide +kernel
theorem zf214_112 : fetch 214 112 = some (.iconst (-1), 1) := by decide +kernel
theorem zf214_113 : fetch 214 113 = some (.if_icmp .ne 7, 3) := by decide +kernel
theorem zf214_120 : fetch 214 120 = some (.return_, 1) := by decide +kernel
theorem zf214_116 : fetch 214 116 = some (.iload_n 2, 1) := by decide +kernel
theorem zf214_117 : fetch 214 117 = some (.ifCond .eq 4, 3) := by decide +kernel
theorem zf214_121 : fetch 214 121 = some (.aload_n 0, 1) := by decide +kernel
theorem zf214_122 : fetch 214 122 = some (.bipush 9, 2) := by decide +kernel
theorem zf214_124 : fetch 214 124 = some (.invokevirtual 269, 3) := by decide +kernel
theorem zf214_127 : fetch 214 127 = some (.istore_n 3, 1) := by decide +kernel
theorem zf214_128 : fetch 214 128 = some (.aload_n 0, 1) := by decide +kernel
theorem zf214_129 : fetch 214 129 = some (.getfield 128, 3) := by decide +kernel
theorem zf214_132 : fetch 214 132 = some (.iconst (-1), 1) := by decide +kernel
theorem zf214_133 : fetch 214 133 = some (.if_icmp .ne 22, 3) := by decide +kernel
theorem zf214_155 : fetch 214 155 = some (.return_, 1) := by decide +kernel
theorem zf214_136 : fetch 214 136 = some (.aload_n 0, 1) := by decide +kernel
theorem zf214_137 : fetch 214 137 = some (.getfield 55, 3) := by decide +kernel
theorem zf214_140 : fetch 214 140 = some (.iload_n 1, 1) := by decide +kernel
theorem zf214_141 : fetch 214 141 = some (.iconst 3, 1) := by decide +kernel
theorem zf214_142 : fetch 214 142 = some (.iadd, 1) := by decide +kernel
theorem zf214_143 : fetch 214 143 = some (.bipush 10, 2) := by decide +kernel
theorem zf214_145 : fetch 214 145 = some (.iload_n 3, 1) := by decide +kernel
theorem zf214_146 : fetch 214 146 = some (.imul, 1) := by decide +kernel
theorem zf214_147 : fetch 214 147 = some (.aload_n 0, 1) := by decide +kernel
theorem zf214_148 : fetch 214 148 = some (.bipush 9, 2) := by decide +kernel
theorem zf214_150 : fetch 214 150 = some (.invokevirtual 269, 3) := by decide +kernel
theorem zf214_153 : fetch 214 153 = some (.iadd, 1) := by decide +kernel
theorem zf214_154 : fetch 214 154 = some (.iastore, 1) := by decide +kernel
theorem zf201_2 : fetch 201 2 = some (.iload_n 2, 1) := by decide +kernel
theorem zf201_3 : fetch 201 3 = some (.aload_n 0, 1) := by decide +kernel
theorem zf201_4 : fetch 201 4 = some (.invokevirtual 99, 3) := by decide +kernel
theorem zf201_7 : fetch 201 7 = some (.if_icmp .ge 20, 3) := by decide +kernel
theorem zf201_27 : fetch 201 27 = some (.iconst 0, 1) := by decide +kernel
theorem zf201_28 : fetch 201 28 = some (.ireturn, 1) := by decide +kernel
theorem zf201_10 : fetch 201 10 = some (.aload_n 0, 1) := by decide +kernel
theorem zf201_11 : fetch 201 11 = some (.iload_n 2, 1) := by decide +kernel
theorem zf201_12 : fetch 201 12 = some (.invokevirtual 105, 3) := by decide +kernel
theorem zf201_15 : fetch 201 15 = some (.iload_n 1, 1) := by decide +kernel
theorem zf201_16 : fetch 201 16 = some (.if_icmp .ne 5, 3) := by decide +kernel
theorem zf201_21 : fetch 201 21 = some (.iinc 2 1, 3) := by decide +kernel
theorem zf201_24 : fetch 201 24 = some (.goto (-22), 3) := by decide +kernel
theorem zf201_19 : fetch 201 19 = some (.iconst 1, 1) := by decide +kernel
theorem zf201_20 : fetch 201 20 = some (.ireturn, 1) := by decide +kernel
theorem zf204_0 : fetch 204 0 = some (.iload_n 1, 1) := by decide +kernel
theorem zf204_1 : fetch 204 1 = some (.ifCond .eq 12, 3) := by decide +kernel
theorem zf204_13 : fetch 204 13 = some (.aload_n 0, 1) := by decide +kernel
theorem zf204_14 : fetch 204 14 = some (.invokevirtual 184, 3) := by decide +kernel
theorem zf204_17 : fetch 204 17 = some (.istore_n 3, 1) := by decide +kernel
theorem zf204_4 : fetch 204 4 = some (.aload_n 0, 1) := by decide +kernel
theorem zf204_5 : fetch 204 5 = some (.iconst 1, 1) := by decide +kernel
theorem zf204_6 : fetch 204 6 = some (.iload_n 2, 1) := by decide +kernel
theorem zf204_7 : fetch 204 7 = some (.invokevirtual 191, 3) := by decide +kernel
theorem zf204_10 : fetch 204 10 = some (.goto 7, 3) := by decide +kernel
theorem zf203_7 : fetch 203 7 = some (.aload_n 0, 1) := by decide +kernel
theorem zf203_8 : fetch 203 8 = some (.getfield 128, 3) := by decide +kernel
theorem zf203_11 : fetch 203 11 = some (.iconst (-1), 1) := by decide +kernel
theorem zf203_12 : fetch 203 12 = some (.if_icmp .ne 48, 3) := by decide +kernel
theorem zf203_60 : fetch 203 60 = some (.iload_n 3, 1) := by decide +kernel
theorem zf203_61 : fetch 203 61 = some (.ireturn, 1) := by decide +kernel
theorem zf203_15 : fetch 203 15 = some (.aload_n 0, 1) := by decide +kernel
theorem zf203_16 : fetch 203 16 = some (.invokevirtual 138, 3) := by decide +kernel
theorem zf203_19 : fetch 203 19 = some (.bipush 124, 2) := by decide +kernel
theorem zf203_21 : fetch 203 21 = some (.if_icmp .ne 39, 3) := by decide +kernel
theorem zf203_24 : fetch 203 24 = some (.aload_n 0, 1) := by decide +kernel
theorem zf203_25 : fetch 203 25 = some (.dup, 1) := by decide +kernel
theorem zf203_26 : fetch 203 26 = some (.getfield 119, 3) := by decide +kernel
theorem zf203_29 : fetch 203 29 = some (.iconst 1, 1) := by decide +kernel
theorem zf203_30 : fetch 203 30 = some (.iadd, 1) := by decide +kernel
theorem zf203_31 : fetch 203 31 = some (.putfield 119, 3) := by decide +kernel
theorem zf203_34 : fetch 203 34 = some (.aload_n 0, 1) := by decide +kernel
theorem zf203_35 : fetch 203 35 = some (.iconst 0, 1) := by decide +kernel
theorem zf203_36 : fetch 203 36 = some (.iconst 0, 1) := by decide +kernel
theorem zf203_37 : fetch 203 37 = some (.invokevirtual 194, 3) := by decide +kernel
theorem zf203_40 : fetch 203 40 = some (.istore 4, 2) := by decide +kernel
theorem zf203_42 : fetch 203 42 = some (.iload_n 3, 1) := by decide +kernel
theorem zf203_43 : fetch 203 43 = some (.ifCond .ne 8, 3) := by decide +kernel
theorem zf203_51 : fetch 203 51 = some (.iconst 1, 1) := by decide +kernel
theorem zf203_52 : fetch 203 52 = some (.goto 4, 3) := by decide +kernel
theorem zf203_56 : fetch 203 56 = some (.istore_n 3, 1) := by decide +kernel
theorem zf203_57 : fetch 203 57 = some (.goto (-50), 3) := by decide +kernel
theorem zf203_46 : fetch 203 46 = some (.iload 4, 2) := by decide +kernel
theorem zf203_48 : fetch 203 48 = some (.ifCond .eq 7, 3) := by decide +kernel
theorem zf203_55 : fetch 203 55 = some (.iconst 0, 1) := by decide +kernel
theorem zf207_0 : fetch 207 0 = some (.aload_n 0, 1) := by decide +kernel
theorem zf207_1 : fetch 207 1 = some (.invokevirtual 171, 3) := by decide +kernel
theorem zf207_4 : fetch 207 4 = some (.istore_n 1, 1) := by decide +kernel
theorem zf206_5 : fetch 206 5 = some (.aload_n 0, 1) := by decide +kernel
theorem zf206_6 : fetch 206 6 = some (.getfield 128, 3) := by decide +kernel
theorem zf206_9 : fetch 206 9 = some (.iconst (-1), 1) := by decide +kernel
theorem zf206_10 : fetch 206 10 = some (.if_icmp .ne 74, 3) := by decide +kernel
theorem zf206_84 : fetch 206 84 = some (.iload_n 1, 1) := by decide +kernel
theorem zf206_85 : fetch 206 85 = some (.ireturn, 1) := by decide +kernel
theorem zf206_13 : fetch 206 13 = some (.aload_n 0, 1) := by decide +kernel
theorem zf206_14 : fetch 206 14 = some (.invokevirtual 138, 3) := by decide +kernel
theorem zf206_17 : fetch 206 17 = some (.bipush 43, 2) := by decide +kernel
theorem zf206_19 : fetch 206 19 = some (.if_icmp .eq 12, 3) := by decide +kernel
theorem zf206_31 : fetch 206 31 = some (.aload_n 0, 1) := by decide +kernel
theorem zf206_32 : fetch 206 32 = some (.invokevirtual 138, 3) := by decide +kernel
theorem zf206_35 : fetch 206 35 = some (.bipush 43, 2) := by decide +kernel
theorem zf206_37 : fetch 206 37 = some (.if_icmp .ne 7, 3) := by decide +kernel
theorem zf206_44 : fetch 206 44 = some (.iconst 0, 1) := by decide +kernel
theorem zf206_40 : fetch 206 40 = some (.iconst 1, 1) := by decide +kernel
theorem zf206_41 : fetch 206 41 = some (.goto 4, 3) := by decide +kernel
theorem zf206_22 : fetch 206 22 = some (.aload_n 0, 1) := by decide +kernel
theorem zf206_23 : fetch 206 23 = some (.invokevirtual 138, 3) := by decide +kernel
theorem zf206_26 : fetch 206 26 = some (.bipush 45, 2) := by decide +kernel
theorem zf206_28 : fetch 206 28 = some (.if_icmp .ne 56, 3) := by decide +kernel
theorem zf198_0 : fetch 198 0 = some (.iconst 0, 1) := by decide +kernel
theorem zf198_1 : fetch 198 1 = some (.istore_n 1, 1) := by decide +kernel
theorem zf187_18 : fetch 187 18 = some (.iload_n 1, 1) := by decide +kernel
theorem zf187_19 : fetch 187 19 = some (.bipush 102, 2) := by decide +kernel
theorem zf187_21 : fetch 187 21 = some (.if_icmp .ne 12, 3) := by decide +kernel
theorem zf187_33 : fetch 187 33 = some (.iload_n 1, 1) := by decide +kernel
theorem zf187_34 : fetch 187 34 = some (.bipush 99, 2) := by decide +kernel
theorem zf187_36 : fetch 187 36 = some (.if_icmp .ne 15, 3) := by decide +kernel
theorem zf187_51 : fetch 187 51 = some (.iconst 0, 1) := by decide +kernel
theorem zf187_39 : fetch 187 39 = some (.aload_n 0, 1) := by decide +kernel
theorem zf187_40 : fetch 187 40 = some (.getfield 248, 3) := by decide +kernel
theorem zf187_43 : fetch 187 43 = some (.iconst 5, 1) := by decide +kernel
theorem zf187_44 : fetch 187 44 = some (.if_icmp .ge 7, 3) := by decide +kernel
theorem zf187_24 : fetch 187 24 = some (.aload_n 0, 1) := by decide +kernel
theorem zf187_25 : fetch 187 25 = some (.getfield 245, 3) := by decide +kernel
theorem zf187_28 : fetch 187 28 = some (.bipush 8, 2) := by decide +kernel
theorem zf187_30 : fetch 187 30 = some (.if_icmp .lt 17, 3) := by decide +kernel
theorem zf187_52 : fetch 187 52 = some (.istore_n 2, 1) := by decide +kernel
theorem zf187_53 : fetch 187 53 = some (.iload_n 2, 1) := by decide +kernel
theorem zf187_54 : fetch 187 54 = some (.ifCond .ne 9, 3) := by decide +kernel
theorem zf187_63 : fetch 187 63 = some (.aload_n 0, 1) := by decide +kernel
theorem zf187_64 : fetch 187 64 = some (.dup, 1) := by decide +kernel
theorem zf187_65 : fetch 187 65 = some (.getfield 119, 3) := by decide +kernel
theorem zf187_68 : fetch 187 68 = some (.iconst 1, 1) := by decide +kernel
theorem zf187_69 : fetch 187 69 = some (.iadd, 1) := by decide +kernel
theorem zf187_70 : fetch 187 70 = some (.putfield 119, 3) := by decide +kernel
theorem zf187_73 : fetch 187 73 = some (.iload_n 1, 1) := by decide +kernel
theorem zf187_74 : fetch 187 74 = some (.bipush 115, 2) := by decide +kernel
theorem zf187_76 : fetch 187 76 = some (.if_icmp .ne 23, 3) := by decide +kernel
theorem zf187_99 : fetch 187 99 = some (.iload_n 1, 1) := by decide +kernel
theorem zf187_100 : fetch 187 100 = some (.bipush 102, 2) := by decide +kernel
theorem zf187_102 : fetch 187 102 = some (.if_icmp .ne 36, 3) := by decide +kernel
theorem zf187_138 : fetch 187 138 = some (.aload_n 0, 1) := by decide +kernel
theorem zf187_139 : fetch 187 139 = some (.dup, 1) := by decide +kernel
theorem zf187_140 : fetch 187 140 = some (.getfield 248, 3) := by decide +kernel
theorem zf187_143 : fetch 187 143 = some (.iconst 1, 1) := by decide +kernel
theorem zf187_144 : fetch 187 144 = some (.iadd, 1) := by decide +kernel
theorem zf187_145 : fetch 187 145 = some (.putfield 248, 3) := by decide +kernel
theorem zf187_148 : fetch 187 148 = some (.aload_n 0, 1) := by decide +kernel
theorem zf187_149 : fetch 187 149 = some (.iload_n 1, 1) := by decide +kernel
theorem zf187_150 : fetch 187 150 = some (.aload_n 0, 1) := by decide +kernel
theorem zf187_151 : fetch 187 151 = some (.getfield 52, 3) := by decide +kernel
theorem zf187_154 : fetch 187 154 = some (.iconst 3, 1) := by decide +kernel
theorem zf187_155 : fetch 187 155 = some (.aload_n 0, 1) := by decide +kernel
theorem zf187_156 : fetch 187 156 = some (.getfield 248, 3) := by decide +kernel
theorem zf187_159 : fetch 187 159 = some (.iconst 1, 1) := by decide +kernel
theorem zf187_160 : fetch 187 160 = some (.isub, 1) := by decide +kernel
theorem zf187_161 : fetch 187 161 = some (.imul, 1) := by decide +kernel
theorem zf187_162 : fetch 187 162 = some (.ldc_w 259, 3) := by decide +kernel
theorem zf187_165 : fetch 187 165 = some (.invokevirtual 253, 3) := by decide +kernel
theorem zf187_168 : fetch 187 168 = some (.return_, 1) := by decide +kernel
theorem zf187_105 : fetch 187 105 = some (.aload_n 0, 1) := by decide +kernel
theorem zf187_106 : fetch 187 106 = some (.dup, 1) := by decide +kernel
theorem zf187_107 : fetch 187 107 = some (.getfield 245, 3) := by decide +kernel
theorem zf187_110 : fetch 187 110 = some (.iconst 1, 1) := by decide +kernel
theorem zf187_111 : fetch 187 111 = some (.iadd, 1) := by decide +kernel
theorem zf187_112 : fetch 187 112 = some (.putfield 245, 3) := by decide +kernel
theorem zf187_115 : fetch 187 115 = some (.aload_n 0, 1) := by decide +kernel
theorem zf187_116 : fetch 187 116 = some (.iload_n 1, 1) := by decide +kernel
theorem zf187_117 : fetch 187 117 = some (.aload_n 0, 1) := by decide +kernel
theorem zf187_118 : fetch 187 118 = some (.getfield 46, 3) := by decide +kernel
theorem zf187_121 : fetch 187 121 = some (.iconst 3, 1) := by decide +kernel
theorem zf187_122 : fetch 187 122 = some (.aload_n 0, 1) := by decide +kernel
theorem zf187_123 : fetch 187 123 = some (.getfield 245, 3) := by decide +kernel
theorem zf187_126 : fetch 187 126 = some (.iconst 1, 1) := by decide +kernel
theorem zf187_127 : fetch 187 127 = some (.isub, 1) := by decide +kernel
theorem zf187_128 : fetch 187 128 = some (.imul, 1) := by decide +kernel
theorem zf187_129 : fetch 187 129 = some (.ldc_w 257, 3) := by decide +kernel
theorem zf187_132 : fetch 187 132 = some (.invokevirtual 253, 3) := by decide +kernel
theorem zf187_135 : fetch 187 135 = some (.goto 33, 3) := by decide +kernel
theorem zf187_79 : fetch 187 79 = some (.aload_n 0, 1) := by decide +kernel
theorem zf187_80 : fetch 187 80 = some (.iconst 1, 1) := by decide +kernel
theorem zf187_81 : fetch 187 81 = some (.putfield 242, 3) := by decide +kernel
theorem zf187_84 : fetch 187 84 = some (.aload_n 0, 1) := by decide +kernel
theorem zf187_85 : fetch 187 85 = some (.iload_n 1, 1) := by decide +kernel
theorem zf187_86 : fetch 187 86 = some (.aload_n 0, 1) := by decide +kernel
theorem zf187_87 : fetch 187 87 = some (.getfield 40, 3) := by decide +kernel
theorem zf187_90 : fetch 187 90 = some (.iconst 0, 1) := by decide +kernel
theorem zf187_91 : fetch 187 91 = some (.ldc 251, 2) := by decide +kernel
theorem zf187_93 : fetch 187 93 = some (.invokevirtual 253, 3) := by decide +kernel
theorem zf187_96 : fetch 187 96 = some (.goto 72, 3) := by decide +kernel
theorem zf187_57 : fetch 187 57 = some (.aload_n 0, 1) := by decide +kernel
theorem zf187_58 : fetch 187 58 = some (.invokevirtual 134, 3) := by decide +kernel
theorem zf187_61 : fetch 187 61 = some (.pop, 1) := by decide +kernel
theorem zf187_62 : fetch 187 62 = some (.return_, 1) := by decide +kernel
theorem zf216_300 : fetch 216 300 = some (.iload_n 3, 1) := by decide +kernel
theorem zf216_301 : fetch 216 301 = some (.sipush 277, 3) := by decide +kernel
theorem zf216_304 : fetch 216 304 = some (.if_icmp .ge 16, 3) := by decide +kernel
theorem zf216_320 : fetch 216 320 = some (.iconst 0, 1) := by decide +kernel
theorem zf216_321 : fetch 216 321 = some (.istore_n 3, 1) := by decide +kernel
theorem zf216_307 : fetch 216 307 = some (.aload_n 0, 1) := by decide +kernel
theorem zf216_308 : fetch 216 308 = some (.getfield 61, 3) := by decide +kernel
theorem zf216_311 : fetch 216 311 = some (.iload_n 3, 1) := by decide +kernel
theorem zf216_312 : fetch 216 312 = some (.iconst 0, 1) := by decide +kernel
theorem zf216_313 : fetch 216 313 = some (.iastore, 1) := by decide +kernel
theorem zf216_314 : fetch 216 314 = some (.iinc 3 1, 3) := by decide +kernel
theorem zf216_317 : fetch 216 317 = some (.goto (-17), 3) := by decide +kernel
theorem zf264_46 : fetch 264 46 = some (.iload 4, 2) := by decide +kernel
theorem zf264_48 : fetch 264 48 = some (.iconst 2, 1) := by decide +kernel
theorem zf264_49 : fetch 264 49 = some (.if_icmp .ge 90, 3) := by decide +kernel
theorem zf264_139 : fetch 264 139 = some (.iinc 3 (-1), 3) := by decide +kernel
theorem zf264_142 : fetch 264 142 = some (.goto (-103), 3) := by decide +kernel
theorem zf264_52 : fetch 264 52 = some (.aload_n 0, 1) := by decide +kernel
theorem zf264_53 : fetch 264 53 = some (.aload_n 0, 1) := by decide +kernel
theorem zf264_54 : fetch 264 54 = some (.aload_n 0, 1) := by decide +kernel
theorem zf264_55 : fetch 264 55 = some (.getfield 61, 3) := by decide +kernel
theorem zf264_58 : fetch 264 58 = some (.iload_n 1, 1) := by decide +kernel
theorem zf264_59 : fetch 264 59 = some (.iload_n 2, 1) := by decide +kernel
theorem zf264_60 : fetch 264 60 = some (.iload_n 3, 1) := by decide +kernel
theorem zf264_61 : fetch 264 61 = some (.iload 4, 2) := by decide +kernel
theorem zf264_63 : fetch 264 63 = some (.invokevirtual 348, 3) := by decide +kernel
theorem zf264_66 : fetch 264 66 = some (.invokevirtual 352, 3) := by decide +kernel
theorem zf264_69 : fetch 264 69 = some (.istore 5, 2) := by decide +kernel
theorem zf264_71 : fetch 264 71 = some (.iload 5, 2) := by decide +kernel
theorem zf264_73 : fetch 264 73 = some (.iconst (-1), 1) := by decide +kernel
theorem zf264_74 : fetch 264 74 = some (.if_icmp .eq 59, 3) := by decide +kernel
theorem zf264_133 : fetch 264 133 = some (.iinc 4 1, 3) := by decide +kernel
theorem zf264_136 : fetch 264 136 = some (.goto (-90), 3) := by decide +kernel
theorem zf264_77 : fetch 264 77 = some (.iload 5, 2) := by decide +kernel
theorem zf264_79 : fetch 264 79 = some (.iload_n 2, 1) := by decide +kernel
theorem zf264_80 : fetch 264 80 = some (.if_icmp .eq 53, 3) := by decide +kernel
theorem zf264_83 : fetch 264 83 = some (.aload_n 0, 1) := by decide +kernel
theorem zf264_84 : fetch 264 84 = some (.iload 5, 2) := by decide +kernel
theorem zf264_86 : fetch 264 86 = some (.invokevirtual 326, 3) := by decide +kernel
theorem zf264_89 : fetch 264 89 = some (.aload_n 0, 1) := by decide +kernel
theorem zf264_90 : fetch 264 90 = some (.iload_n 2, 1) := by decide +kernel
theorem zf264_91 : fetch 264 91 = some (.invokevirtual 326, 3) := by decide +kernel
theorem zf264_94 : fetch 264 94 = some (.if_icmp .le 7, 3) := by decide +kernel
theorem zf264_101 : fetch 264 101 = some (.iconst 0, 1) := by decide +kernel
theorem zf264_102 : fetch 264 102 = some (.iload 4, 2) := by decide +kernel
theorem zf264_104 : fetch 264 104 = some (.ifCond .ne 7, 3) := by decide +kernel
theorem zf264_111 : fetch 264 111 = some (.iconst 0, 1) := by decide +kernel
theorem zf264_107 : fetch 264 107 = some (.iconst 1, 1) := by decide +kernel
theorem zf264_108 : fetch 264 108 = some (.goto 4, 3) := by decide +kernel
theorem zf264_97 : fetch 264 97 = some (.iconst 1, 1) := by decide +kernel
theorem zf264_98 : fetch 264 98 = some (.goto 4, 3) := by decide +kernel
theorem zf276_0 : fetch 276 0 = some (.iload_n 1, 1) := by decide +kernel
theorem zf276_1 : fetch 276 1 = some (.iload_n 2, 1) := by decide +kernel
theorem zf276_2 : fetch 276 2 = some (.invokestatic 229, 3) := by decide +kernel
theorem zf276_5 : fetch 276 5 = some (.ifCond .eq 5, 3) := by decide +kernel
theorem zf276_10 : fetch 276 10 = some (.iload_n 3, 1) := by decide +kernel
theorem zf276_11 : fetch 276 11 = some (.ifCond .ne 5, 3) := by decide +kernel
theorem zf276_16 : fetch 276 16 = some (.iconst 0, 1) := by decide +kernel
theorem zf276_17 : fetch 276 17 = some (.istore 4, 2) := by decide +kernel
theorem zf276_14 : fetch 276 14 = some (.iconst 0, 1) := by decide +kernel
theorem zf276_15 : fetch 276 15 = some (.ireturn, 1) := by decide +kernel
theorem zf276_8 : fetch 276 8 = some (.iconst 1, 1) := by decide +kernel
theorem zf276_9 : fetch 276 9 = some (.ireturn, 1) := by decide +kernel
theorem zf280_125 : fetch 280 125 = some (.iload 9, 2) := by decide +kernel
theorem zf280_127 : fetch 280 127 = some (.bipush 20, 2) := by decide +kernel
theorem zf280_129 : fetch 280 129 = some (.if_icmp .ge 78, 3) := by decide +kernel
theorem zf280_207 : fetch 280 207 = some (.iload 4, 2) := by decide +kernel
theorem zf280_209 : fetch 280 209 = some (.iconst (-1), 1) := by decide +kernel
theorem zf280_210 : fetch 280 210 = some (.if_icmp .eq 13, 3) := by decide +kernel
theorem zf280_223 : fetch 280 223 = some (.bipush 100, 2) := by decide +kernel
theorem zf280_225 : fetch 280 225 = some (.iload 6, 2) := by decide +kernel
theorem zf280_227 : fetch 280 227 = some (.imul, 1) := by decide +kernel
theorem zf280_228 : fetch 280 228 = some (.iload 7, 2) := by decide +kernel
theorem zf280_230 : fetch 280 230 = some (.iadd, 1) := by decide +kernel
theorem zf280_231 : fetch 280 231 = some (.istore 4, 2) := by decide +kernel
theorem zf280_233 : fetch 280 233 = some (.iload 8, 2) := by decide +kernel
theorem zf280_235 : fetch 280 235 = some (.istore 5, 2) := by decide +kernel
theorem zf280_237 : fetch 280 237 = some (.iinc 7 1, 3) := by decide +kernel
theorem zf280_240 : fetch 280 240 = some (.goto (-155), 3) := by decide +kernel
theorem zf280_213 : fetch 280 213 = some (.iload 8, 2) := by decide +kernel
theorem zf280_215 : fetch 280 215 = some (.iload 5, 2) := by decide +kernel
theorem zf280_217 : fetch 280 217 = some (.if_icmp .lt 6, 3) := by decide +kernel
theorem zf280_220 : fetch 280 220 = some (.goto 17, 3) := by decide +kernel
theorem zf280_132 : fetch 280 132 = some (.iload_n 3, 1) := by decide +kernel
theorem zf280_133 : fetch 280 133 = some (.iload 9, 2) := by decide +kernel
theorem zf280_135 : fetch 280 135 = some (.invokestatic 229, 3) := by decide +kernel
theorem zf280_138 : fetch 280 138 = some (.ifCond .ne 6, 3) := by decide +kernel
theorem zf280_144 : fetch 280 144 = some (.aload_n 0, 1) := by decide +kernel
theorem zf280_145 : fetch 280 145 = some (.iload_n 1, 1) := by decide +kernel
theorem zf280_146 : fetch 280 146 = some (.iload_n 2, 1) := by decide +kernel
theorem zf280_147 : fetch 280 147 = some (.iload 7, 2) := by decide +kernel
theorem zf280_149 : fetch 280 149 = some (.iload 6, 2) := by decide +kernel
theorem zf280_151 : fetch 280 151 = some (.iload 9, 2) := by decide +kernel
theorem zf280_153 : fetch 280 153 = some (.bipush 10, 2) := by decide +kernel
theorem zf280_155 : fetch 280 155 = some (.irem, 1) := by decide +kernel
theorem zf280_156 : fetch 280 156 = some (.iload 9, 2) := by decide +kernel
theorem zf280_158 : fetch 280 158 = some (.bipush 10, 2) := by decide +kernel
theorem zf280_160 : fetch 280 160 = some (.idiv, 1) := by decide +kernel
theorem zf280_161 : fetch 280 161 = some (.iconst 0, 1) := by decide +kernel
theorem zf280_162 : fetch 280 162 = some (.invokevirtual 329, 3) := by decide +kernel
theorem zf280_165 : fetch 280 165 = some (.aload_n 0, 1) := by decide +kernel
theorem zf280_166 : fetch 280 166 = some (.iload_n 2, 1) := by decide +kernel
theorem zf280_167 : fetch 280 167 = some (.invokevirtual 326, 3) := by decide +kernel
theorem zf280_170 : fetch 280 170 = some (.isub, 1) := by decide +kernel
theorem zf280_171 : fetch 280 171 = some (.invokestatic 333, 3) := by decide +kernel
theorem zf280_174 : fetch 280 174 = some (.istore 10, 2) := by decide +kernel
theorem zf280_176 : fetch 280 176 = some (.aload_n 0, 1) := by decide +kernel
theorem zf280_177 : fetch 280 177 = some (.getfield 83, 3) := by decide +kernel
theorem zf280_180 : fetch 280 180 = some (.iload 10, 2) := by decide +kernel
theorem zf280_182 : fetch 280 182 = some (.dup2, 1) := by decide +kernel
theorem zf280_183 : fetch 280 183 = some (.iaload, 1) := by decide +kernel
theorem zf280_184 : fetch 280 184 = some (.iconst 1, 1) := by decide +kernel
theorem zf280_185 : fetch 280 185 = some (.iadd, 1) := by decide +kernel
theorem zf280_186 : fetch 280 186 = some (.iastore, 1) := by decide +kernel
theorem zf280_187 : fetch 280 187 = some (.iload 8, 2) := by decide +kernel
theorem zf280_189 : fetch 280 189 = some (.aload_n 0, 1) := by decide +kernel
theorem zf280_190 : fetch 280 190 = some (.getfield 83, 3) := by decide +kernel
theorem zf280_193 : fetch 280 193 = some (.iload 10, 2) := by decide +kernel
theorem zf280_195 : fetch 280 195 = some (.iaload, 1) := by decide +kernel
theorem zf280_196 : fetch 280 196 = some (.invokestatic 320, 3) := by decide +kernel
theorem zf280_199 : fetch 280 199 = some (.istore 8, 2) := by decide +kernel
theorem zf280_201 : fetch 280 201 = some (.iinc 9 1, 3) := by decide +kernel
theorem zf280_204 : fetch 280 204 = some (.goto (-79), 3) := by decide +kernel
theorem zf280_141 : fetch 280 141 = some (.goto 60, 3) := by decide +kernel
theorem zf283_0 : fetch 283 0 = some (.iconst 0, 1) := by decide +kernel
theorem zf283_1 : fetch 283 1 = some (.istore_n 3, 1) := by decide +kernel
theorem zf292_31 : fetch 292 31 = some (.istore 5, 2) := by decide +kernel
theorem zf292_33 : fetch 292 33 = some (.lload_n 2, 1) := by decide +kernel
theorem zf292_34 : fetch 292 34 = some (.aload_n 0, 1) := by decide +kernel
theorem zf292_35 : fetch 292 35 = some (.getfield 89, 3) := by decide +kernel
theorem zf292_38 : fetch 292 38 = some (.iload 4, 2) := by decide +kernel
theorem zf292_40 : fetch 292 40 = some (.baload, 1) := by decide +kernel
theorem zf292_41 : fetch 292 41 = some (.ifCond .eq 9, 3) := by decide +kernel
theorem zf292_50 : fetch 292 50 = some (.bipush 10, 2) := by decide +kernel
theorem zf292_52 : fetch 292 52 = some (.iload 5, 2) := by decide +kernel
theorem zf292_54 : fetch 292 54 = some (.isub, 1) := by decide +kernel
theorem zf292_55 : fetch 292 55 = some (.i2l, 1) := by decide +kernel
theorem zf292_56 : fetch 292 56 = some (.lmul, 1) := by decide +kernel
theorem zf292_57 : fetch 292 57 = some (.lstore_n 2, 1) := by decide +kernel
theorem zf292_58 : fetch 292 58 = some (.iinc 4 1, 3) := by decide +kernel
theorem zf292_61 : fetch 292 61 = some (.goto (-56), 3) := by decide +kernel
theorem zf292_44 : fetch 292 44 = some (.iload 5, 2) := by decide +kernel
theorem zf292_46 : fetch 292 46 = some (.i2l, 1) := by decide +kernel
theorem zf292_47 : fetch 292 47 = some (.goto 9, 3) := by decide +kernel
theorem zf7_124 : fetch 7 124 = some (.iload_n 1, 1) := by decide +kernel
theorem zf7_125 : fetch 7 125 = some (.bipush 99, 2) := by decide +kernel
theorem zf7_127 : fetch 7 127 = some (.if_icmp .ne 67, 3) := by decide +kernel
theorem zf7_194 : fetch 7 194 = some (.iconst 0, 1) := by decide +kernel
theorem zf7_195 : fetch 7 195 = some (.ireturn, 1) := by decide +kernel
theorem zf7_130 : fetch 7 130 = some (.aload_n 0, 1) := by decide +kernel
theorem zf7_131 : fetch 7 131 = some (.getfield 12, 3) := by decide +kernel
theorem zf7_134 : fetch 7 134 = some (.getfield 39, 3) := by decide +kernel
theorem zf7_137 : fetch 7 137 = some (.iconst 5, 1) := by decide +kernel
theorem zf7_138 : fetch 7 138 = some (.if_icmp .ge 56, 3) := by decide +kernel
theorem zf7_141 : fetch 7 141 = some (.aload_n 0, 1) := by decide +kernel
theorem zf7_142 : fetch 7 142 = some (.getfield 18, 3) := by decide +kernel
theorem zf7_145 : fetch 7 145 = some (.dup, 1) := by decide +kernel
theorem zf7_146 : fetch 7 146 = some (.getfield 22, 3) := by decide +kernel
theorem zf7_149 : fetch 7 149 = some (.iconst 1, 1) := by decide +kernel
theorem zf7_150 : fetch 7 150 = some (.iadd, 1) := by decide +kernel
theorem zf7_151 : fetch 7 151 = some (.putfield 22, 3) := by decide +kernel
theorem zf7_154 : fetch 7 154 = some (.aload_n 0, 1) := by decide +kernel
theorem zf7_155 : fetch 7 155 = some (.getfield 12, 3) := by decide +kernel
theorem zf7_158 : fetch 7 158 = some (.getfield 39, 3) := by decide +kernel
theorem zf7_161 : fetch 7 161 = some (.iconst 3, 1) := by decide +kernel
theorem zf7_162 : fetch 7 162 = some (.imul, 1) := by decide +kernel
theorem zf7_163 : fetch 7 163 = some (.istore_n 2, 1) := by decide +kernel
theorem zf7_164 : fetch 7 164 = some (.aload_n 0, 1) := by decide +kernel
theorem zf7_165 : fetch 7 165 = some (.getfield 12, 3) := by decide +kernel
theorem zf7_168 : fetch 7 168 = some (.dup, 1) := by decide +kernel
theorem zf7_169 : fetch 7 169 = some (.getfield 39, 3) := by decide +kernel
theorem zf7_172 : fetch 7 172 = some (.iconst 1, 1) := by decide +kernel
theorem zf7_173 : fetch 7 173 = some (.iadd, 1) := by decide +kernel
theorem zf7_174 : fetch 7 174 = some (.putfield 39, 3) := by decide +kernel
theorem zf7_177 : fetch 7 177 = some (.aload_n 0, 1) := by decide +kernel
theorem zf7_178 : fetch 7 178 = some (.aload_n 0, 1) := by decide +kernel
theorem zf7_179 : fetch 7 179 = some (.getfield 12, 3) := by decide +kernel
theorem zf7_182 : fetch 7 182 = some (.getfield 76, 3) := by decide +kernel
theorem zf7_185 : fetch 7 185 = some (.iload_n 2, 1) := by decide +kernel
theorem zf7_186 : fetch 7 186 = some (.bipush 7, 2) := by decide +kernel
theorem zf7_188 : fetch 7 188 = some (.bipush 10, 2) := by decide +kernel
theorem zf7_190 : fetch 7 190 = some (.invokevirtual 69, 3) := by decide +kernel
theorem zf7_193 : fetch 7 193 = some (.ireturn, 1) := by decide +kernel
theorem zf9_19 : fetch 9 19 = some (.iload 6, 2) := by decide +kernel
theorem zf9_21 : fetch 9 21 = some (.iload 4, 2) := by decide +kernel
theorem zf9_23 : fetch 9 23 = some (.iload_n 3, 1) := by decide +kernel
theorem zf9_24 : fetch 9 24 = some (.isub, 1) := by decide +kernel
theorem zf9_25 : fetch 9 25 = some (.if_icmp .gt 139, 3) := by decide +kernel
theorem zf9_164 : fetch 9 164 = some (.iconst 0, 1) := by decide +kernel
theorem zf9_165 : fetch 9 165 = some (.ireturn, 1) := by decide +kernel
theorem zf9_28 : fetch 9 28 = some (.aload_n 0, 1) := by decide +kernel
theorem zf9_29 : fetch 9 29 = some (.getfield 18, 3) := by decide +kernel
theorem zf9_32 : fetch 9 32 = some (.invokevirtual 58, 3) := by decide +kernel
theorem zf9_35 : fetch 9 35 = some (.iload_n 3, 1) := by decide +kernel
theorem zf9_36 : fetch 9 36 = some (.iload 4, 2) := by decide +kernel
theorem zf9_38 : fetch 9 38 = some (.invokestatic 79, 3) := by decide +kernel
theorem zf9_41 : fetch 9 41 = some (.istore 7, 2) := by decide +kernel
theorem zf9_43 : fetch 9 43 = some (.iload 7, 2) := by decide +kernel
theorem zf9_45 : fetch 9 45 = some (.iconst (-1), 1) := by decide +kernel
theorem zf9_46 : fetch 9 46 = some (.if_icmp .ne 5, 3) := by decide +kernel
theorem zf9_51 : fetch 9 51 = some (.iload 5, 2) := by decide +kernel
theorem zf9_53 : fetch 9 53 = some (.iload 7, 2) := by decide +kernel
theorem zf9_55 : fetch 9 55 = some (.ishr, 1) := by decide +kernel
theorem zf9_56 : fetch 9 56 = some (.iconst 1, 1) := by decide +kernel
theorem zf9_57 : fetch 9 57 = some (.iand, 1) := by decide +kernel
theorem zf9_58 : fetch 9 58 = some (.ifCond .eq 5, 3) := by decide +kernel
theorem zf9_63 : fetch 9 63 = some (.iload 5, 2) := by decide +kernel
theorem zf9_65 : fetch 9 65 = some (.iconst 1, 1) := by decide +kernel
theorem zf9_66 : fetch 9 66 = some (.iload 7, 2) := by decide +kernel
theorem zf9_68 : fetch 9 68 = some (.ishl, 1) := by decide +kernel
theorem zf9_69 : fetch 9 69 = some (.ior, 1) := by decide +kernel
theorem zf9_70 : fetch 9 70 = some (.istore 5, 2) := by decide +kernel
theorem zf9_72 : fetch 9 72 = some (.aload_n 0, 1) := by decide +kernel
theorem zf9_73 : fetch 9 73 = some (.getfield 18, 3) := by decide +kernel
theorem zf9_76 : fetch 9 76 = some (.dup, 1) := by decide +kernel
theorem zf9_77 : fetch 9 77 = some (.getfield 22, 3) := by decide +kernel
theorem zf9_80 : fetch 9 80 = some (.iconst 1, 1) := by decide +kernel
theorem zf9_81 : fetch 9 81 = some (.iadd, 1) := by decide +kernel
theorem zf9_82 : fetch 9 82 = some (.putfield 22, 3) := by decide +kernel
theorem zf9_85 : fetch 9 85 = some (.aload_n 0, 1) := by decide +kernel
theorem zf9_86 : fetch 9 86 = some (.getfield 18, 3) := by decide +kernel
theorem zf9_89 : fetch 9 89 = some (.invokevirtual 58, 3) := by decide +kernel
theorem zf9_92 : fetch 9 92 = some (.pop, 1) := by decide +kernel
theorem zf9_93 : fetch 9 93 = some (.aload_n 0, 1) := by decide +kernel
theorem zf9_94 : fetch 9 94 = some (.getfield 18, 3) := by decide +kernel
theorem zf9_97 : fetch 9 97 = some (.iconst 2, 1) := by decide +kernel
theorem zf9_98 : fetch 9 98 = some (.invokevirtual 83, 3) := by decide +kernel
theorem zf9_101 : fetch 9 101 = some (.istore 8, 2) := by decide +kernel
theorem zf9_103 : fetch 9 103 = some (.iload 8, 2) := by decide +kernel
theorem zf9_105 : fetch 9 105 = some (.iconst (-1), 1) := by decide +kernel
theorem zf9_106 : fetch 9 106 = some (.if_icmp .ne 5, 3) := by decide +kernel
theorem zf9_111 : fetch 9 111 = some (.iload 8, 2) := by decide +kernel
theorem zf9_113 : fetch 9 113 = some (.getstatic 87, 3) := by decide +kernel
theorem zf9_116 : fetch 9 116 = some (.iload 7, 2) := by decide +kernel
theorem zf9_118 : fetch 9 118 = some (.iaload, 1) := by decide +kernel
theorem zf9_119 : fetch 9 119 = some (.if_icmp .lt 14, 3) := by decide +kernel
theorem zf9_133 : fetch 9 133 = some (.aload_n 0, 1) := by decide +kernel
theorem zf9_134 : fetch 9 134 = some (.getfield 18, 3) := by decide +kernel
theorem zf9_137 : fetch 9 137 = some (.dup, 1) := by decide +kernel
theorem zf9_138 : fetch 9 138 = some (.getfield 22, 3) := by decide +kernel
theorem zf9_141 : fetch 9 141 = some (.iconst 1, 1) := by decide +kernel
theorem zf9_142 : fetch 9 142 = some (.isub, 1) := by decide +kernel
theorem zf9_143 : fetch 9 143 = some (.putfield 22, 3) := by decide +kernel
theorem zf9_146 : fetch 9 146 = some (.iconst 0, 1) := by decide +kernel
theorem zf9_147 : fetch 9 147 = some (.ireturn, 1) := by decide +kernel
theorem zf9_122 : fetch 9 122 = some (.iload 8, 2) := by decide +kernel
theorem zf9_124 : fetch 9 124 = some (.getstatic 90, 3) := by decide +kernel
theorem zf9_127 : fetch 9 127 = some (.iload 7, 2) := by decide +kernel
theorem zf9_129 : fetch 9 129 = some (.iaload, 1) := by decide +kernel
theorem zf9_130 : fetch 9 130 = some (.if_icmp .le 18, 3) := by decide +kernel
theorem zf9_148 : fetch 9 148 = some (.aload_n 1, 1) := by decide +kernel
theorem zf9_149 : fetch 9 149 = some (.iload_n 2, 1) := by decide +kernel
theorem zf9_150 : fetch 9 150 = some (.iload 7, 2) := by decide +kernel
theorem zf9_152 : fetch 9 152 = some (.iadd, 1) := by decide +kernel
theorem zf9_153 : fetch 9 153 = some (.iload_n 3, 1) := by decide +kernel
theorem zf9_154 : fetch 9 154 = some (.isub, 1) := by decide +kernel
theorem zf9_155 : fetch 9 155 = some (.iload 8, 2) := by decide +kernel
theorem zf9_157 : fetch 9 157 = some (.iastore, 1) := by decide +kernel
theorem zf9_158 : fetch 9 158 = some (.iinc 6 1, 3) := by decide +kernel
theorem zf9_161 : fetch 9 161 = some (.goto (-142), 3) := by decide +kernel
theorem zf9_109 : fetch 9 109 = some (.iconst 0, 1) := by decide +kernel
theorem zf9_110 : fetch 9 110 = some (.ireturn, 1) := by decide +kernel
theorem zf9_61 : fetch 9 61 = some (.iconst 0, 1) := by decide +kernel
theorem zf9_62 : fetch 9 62 = some (.ireturn, 1) := by decide +kernel
theorem zf9_49 : fetch 9 49 = some (.iconst 1, 1) := by decide +kernel
theorem zf9_50 : fetch 9 50 = some (.ireturn, 1) := by decide +kernel
theorem zf17_64 : fetch 17 64 = some (.iload_n 1, 1) := by decide +kernel
theorem zf17_65 : fetch 17 65 = some (.aload_n 0, 1) := by decide +kernel
theorem zf17_66 : fetch 17 66 = some (.getfield 31, 3) := by decide +kernel
theorem zf17_69 : fetch 17 69 = some (.if_icmp .ge 23, 3) := by decide +kernel
theorem zf17_92 : fetch 17 92 = some (.iconst 1, 1) := by decide +kernel
theorem zf17_93 : fetch 17 93 = some (.ireturn, 1) := by decide +kernel
theorem zf17_72 : fetch 17 72 = some (.aload_n 0, 1) := by decide +kernel
theorem zf17_73 : fetch 17 73 = some (.aload_n 0, 1) := by decide +kernel
theorem zf17_74 : fetch 17 74 = some (.iload_n 1, 1) := by decide +kernel
theorem zf17_75 : fetch 17 75 = some (.invokevirtual 38, 3) := by decide +kernel
theorem zf17_78 : fetch 17 78 = some (.invokevirtual 41, 3) := by decide +kernel
theorem zf17_81 : fetch 17 81 = some (.ifCond .ne 5, 3) := by decide +kernel
theorem zf17_86 : fetch 17 86 = some (.iinc 1 1, 3) := by decide +kernel
theorem zf17_89 : fetch 17 89 = some (.goto (-25), 3) := by decide +kernel
theorem zf17_84 : fetch 17 84 = some (.iconst 0, 1) := by decide +kernel
theorem zf17_85 : fetch 17 85 = some (.ireturn, 1) := by decide +kernel
theorem zf17_30 : fetch 17 30 = some (.iload_n 2, 1) := by decide +kernel
theorem zf17_31 : fetch 17 31 = some (.iload_n 1, 1) := by decide +kernel
theorem zf17_32 : fetch 17 32 = some (.if_icmp .ge 24, 3) := by decide +kernel
theorem zf17_56 : fetch 17 56 = some (.iinc 1 1, 3) := by decide +kernel
theorem zf17_59 : fetch 17 59 = some (.goto (-39), 3) := by decide +kernel
theorem zf17_35 : fetch 17 35 = some (.aload_n 0, 1) := by decide +kernel
theorem zf17_36 : fetch 17 36 = some (.iload_n 1, 1) := by decide +kernel
theorem zf17_37 : fetch 17 37 = some (.invokevirtual 34, 3) := by decide +kernel
theorem zf17_40 : fetch 17 40 = some (.aload_n 0, 1) := by decide +kernel
theorem zf17_41 : fetch 17 41 = some (.iload_n 2, 1) := by decide +kernel
theorem zf17_42 : fetch 17 42 = some (.invokevirtual 34, 3) := by decide +kernel
theorem zf17_45 : fetch 17 45 = some (.if_icmp .ne 5, 3) := by decide +kernel
theorem zf17_50 : fetch 17 50 = some (.iinc 2 1, 3) := by decide +kernel
theorem zf17_53 : fetch 17 53 = some (.goto (-23), 3) := by decide +kernel
theorem zf17_48 : fetch 17 48 = some (.iconst 0, 1) := by decide +kernel
theorem zf17_49 : fetch 17 49 = some (.ireturn, 1) := by decide +kernel
theorem zf36_0 : fetch 36 0 = some (.iconst 0, 1) := by decide +kernel
theorem zf36_1 : fetch 36 1 = some (.istore_n 3, 1) := by decide +kernel
theorem zf36_2 : fetch 36 2 = some (.aload_n 0, 1) := by decide +kernel
theorem zf36_3 : fetch 36 3 = some (.iload_n 1, 1) := by decide +kernel
theorem zf36_4 : fetch 36 4 = some (.iload_n 2, 1) := by decide +kernel
theorem zf36_5 : fetch 36 5 = some (.invokevirtual 58, 3) := by decide +kernel
theorem zf36_8 : fetch 36 8 = some (.ifCond .ne 5, 3) := by decide +kernel
theorem zf36_13 : fetch 36 13 = some (.iconst 0, 1) := by decide +kernel
theorem zf36_14 : fetch 36 14 = some (.istore 4, 2) := by decide +kernel
theorem zf36_11 : fetch 36 11 = some (.iconst 0, 1) := by decide +kernel
theorem zf36_12 : fetch 36 12 = some (.ireturn, 1) := by decide +kernel
theorem zf25_0 : fetch 25 0 = some (.aload_n 0, 1) := by decide +kernel
theorem zf25_1 : fetch 25 1 = some (.getfield 17, 3) := by decide +kernel
theorem zf25_4 : fetch 25 4 = some (.invokevirtual 32, 3) := by decide +kernel
theorem zf25_7 : fetch 25 7 = some (.istore_n 2, 1) := by decide +kernel
theorem zf25_8 : fetch 25 8 = some (.iload_n 2, 1) := by decide +kernel
theorem zf25_9 : fetch 25 9 = some (.bipush 91, 2) := by decide +kernel
theorem zf25_11 : fetch 25 11 = some (.if_icmp .ne 63, 3) := by decide +kernel
theorem zf25_74 : fetch 25 74 = some (.iload_n 2, 1) := by decide +kernel
theorem zf25_75 : fetch 25 75 = some (.ifCond .gt 7, 3) := by decide +kernel
theorem zf25_82 : fetch 25 82 = some (.ldc 67, 2) := by decide +kernel
theorem zf25_84 : fetch 25 84 = some (.iload_n 2, 1) := by decide +kernel
theorem zf25_85 : fetch 25 85 = some (.i2c, 1) := by decide +kernel
theorem zf25_86 : fetch 25 86 = some (.invokevirtual 69, 3) := by decide +kernel
theorem zf25_78 : fetch 25 78 = some (.iconst (-1), 1) := by decide +kernel
theorem zf25_79 : fetch 25 79 = some (.goto 10, 3) := by decide +kernel
theorem zf25_14 : fetch 25 14 = some (.iload_n 1, 1) := by decide +kernel
theorem zf25_15 : fetch 25 15 = some (.bipush 6, 2) := by decide +kernel
theorem zf25_17 : fetch 25 17 = some (.if_icmp .lt 5, 3) := by decide +kernel
theorem zf25_22 : fetch 25 22 = some (.aload_n 0, 1) := by decide +kernel
theorem zf25_23 : fetch 25 23 = some (.getfield 17, 3) := by decide +kernel
theorem zf25_26 : fetch 25 26 = some (.dup, 1) := by decide +kernel
theorem zf25_27 : fetch 25 27 = some (.getfield 21, 3) := by decide +kernel
theorem zf25_30 : fetch 25 30 = some (.iconst 1, 1) := by decide +kernel
theorem zf25_31 : fetch 25 31 = some (.iadd, 1) := by decide +kernel
theorem zf25_32 : fetch 25 32 = some (.putfield 21, 3) := by decide +kernel
theorem zf25_35 : fetch 25 35 = some (.aload_n 0, 1) := by decide +kernel
theorem zf25_36 : fetch 25 36 = some (.iload_n 1, 1) := by decide +kernel
theorem zf25_37 : fetch 25 37 = some (.iconst 1, 1) := by decide +kernel
theorem zf25_38 : fetch 25 38 = some (.iadd, 1) := by decide +kernel
theorem zf25_39 : fetch 25 39 = some (.invokevirtual 40, 3) := by decide +kernel
theorem zf25_42 : fetch 25 42 = some (.ifCond .eq 15, 3) := by decide +kernel
theorem zf25_57 : fetch 25 57 = some (.iconst 0, 1) := by decide +kernel
theorem zf25_58 : fetch 25 58 = some (.ireturn, 1) := by decide +kernel
theorem zf25_45 : fetch 25 45 = some (.aload_n 0, 1) := by decide +kernel
theorem zf25_46 : fetch 25 46 = some (.getfield 17, 3) := by decide +kernel
theorem zf25_49 : fetch 25 49 = some (.invokevirtual 32, 3) := by decide +kernel
theorem zf25_52 : fetch 25 52 = some (.bipush 93, 2) := by decide +kernel
theorem zf25_54 : fetch 25 54 = some (.if_icmp .eq 5, 3) := by decide +kernel
theorem zf25_59 : fetch 25 59 = some (.aload_n 0, 1) := by decide +kernel
theorem zf25_60 : fetch 25 60 = some (.getfield 17, 3) := by decide +kernel
theorem zf25_63 : fetch 25 63 = some (.dup, 1) := by decide +kernel
theorem zf25_64 : fetch 25 64 = some (.getfield 21, 3) := by decide +kernel
theorem zf25_67 : fetch 25 67 = some (.iconst 1, 1) := by decide +kernel
theorem zf25_68 : fetch 25 68 = some (.iadd, 1) := by decide +kernel
theorem zf25_69 : fetch 25 69 = some (.putfield 21, 3) := by decide +kernel
theorem zf25_72 : fetch 25 72 = some (.iconst 1, 1) := by decide +kernel
theorem zf25_73 : fetch 25 73 = some (.ireturn, 1) := by decide +kernel
theorem zf25_20 : fetch 25 20 = some (.iconst 0, 1) := by decide +kernel
theorem zf25_21 : fetch 25 21 = some (.ireturn, 1) := by decide +kernel
theorem zf24_14 : fetch 24 14 = some (.iload_n 3, 1) := by decide +kernel
theorem zf24_15 : fetch 24 15 = some (.sipush 240, 3) := by decide +kernel
theorem zf24_18 : fetch 24 18 = some (.if_icmp .gt 106, 3) := by decide +kernel
theorem zf24_124 : fetch 24 124 = some (.iload_n 2, 1) := by decide +kernel
theorem zf24_125 : fetch 24 125 = some (.iconst (-1), 1) := by decide +kernel
theorem zf24_126 : fetch 24 126 = some (.if_icmp .eq 9, 3) := by decide +kernel
theorem zf24_135 : fetch 24 135 = some (.iconst 1, 1) := by decide +kernel
theorem zf24_136 : fetch 24 136 = some (.ireturn, 1) := by decide +kernel
theorem zf24_129 : fetch 24 129 = some (.aload_n 0, 1) := by decide +kernel
theorem zf24_130 : fetch 24 130 = some (.iload_n 2, 1) := by decide +kernel
theorem zf24_131 : fetch 24 131 = some (.iconst 0, 1) := by decide +kernel
theorem zf24_132 : fetch 24 132 = some (.invokevirtual 50, 3) := by decide +kernel
theorem zf24_21 : fetch 24 21 = some (.aload_n 0, 1) := by decide +kernel
theorem zf24_22 : fetch 24 22 = some (.getfield 17, 3) := by decide +kernel
theorem zf24_25 : fetch 24 25 = some (.invokevirtual 32, 3) := by decide +kernel
theorem zf24_28 : fetch 24 28 = some (.invokestatic 64, 3) := by decide +kernel
theorem zf24_31 : fetch 24 31 = some (.istore 4, 2) := by decide +kernel
theorem zf24_33 : fetch 24 33 = some (.iload 4, 2) := by decide +kernel
theorem zf24_35 : fetch 24 35 = some (.iconst (-1), 1) := by decide +kernel
theorem zf24_36 : fetch 24 36 = some (.if_icmp .ne 6, 3) := by decide +kernel
theorem zf24_42 : fetch 24 42 = some (.aload_n 0, 1) := by decide +kernel
theorem zf24_43 : fetch 24 43 = some (.getfield 17, 3) := by decide +kernel
theorem zf24_46 : fetch 24 46 = some (.dup, 1) := by decide +kernel
theorem zf24_47 : fetch 24 47 = some (.getfield 21, 3) := by decide +kernel
theorem zf24_50 : fetch 24 50 = some (.iconst 1, 1) := by decide +kernel
theorem zf24_51 : fetch 24 51 = some (.iadd, 1) := by decide +kernel
theorem zf24_52 : fetch 24 52 = some (.putfield 21, 3) := by decide +kernel
theorem zf24_55 : fetch 24 55 = some (.iload 4, 2) := by decide +kernel
theorem zf24_57 : fetch 24 57 = some (.iconst 2, 1) := by decide +kernel
theorem zf24_58 : fetch 24 58 = some (.if_icmp .eq 9, 3) := by decide +kernel
theorem zf24_67 : fetch 24 67 = some (.iconst 1, 1) := by decide +kernel
theorem zf24_68 : fetch 24 68 = some (.goto 4, 3) := by decide +kernel
theorem zf24_72 : fetch 24 72 = some (.istore 5, 2) := by decide +kernel
theorem zf24_74 : fetch 24 74 = some (.iload 5, 2) := by decide +kernel
theorem zf24_76 : fetch 24 76 = some (.ifCond .eq 14, 3) := by decide +kernel
theorem zf24_79 : fetch 24 79 = some (.iload_n 2, 1) := by decide +kernel
theorem zf24_80 : fetch 24 80 = some (.iconst (-1), 1) := by decide +kernel
theorem zf24_81 : fetch 24 81 = some (.if_icmp .eq 9, 3) := by decide +kernel
theorem zf24_84 : fetch 24 84 = some (.aload_n 0, 1) := by decide +kernel
theorem zf24_85 : fetch 24 85 = some (.iload_n 2, 1) := by decide +kernel
theorem zf24_86 : fetch 24 86 = some (.iconst 0, 1) := by decide +kernel
theorem zf24_87 : fetch 24 87 = some (.invokevirtual 50, 3) := by decide +kernel
theorem zf24_61 : fetch 24 61 = some (.iload 4, 2) := by decide +kernel
theorem zf24_63 : fetch 24 63 = some (.iconst 3, 1) := by decide +kernel
theorem zf24_64 : fetch 24 64 = some (.if_icmp .ne 7, 3) := by decide +kernel
theorem zf24_71 : fetch 24 71 = some (.iconst 0, 1) := by decide +kernel
theorem zf24_39 : fetch 24 39 = some (.goto 85, 3) := by decide +kernel
theorem zf84_218 : fetch 84 218 = some (.iload_n 2, 1) := by decide +kernel
theorem zf84_219 : fetch 84 219 = some (.iconst 1, 1) := by decide +kernel
theorem zf84_220 : fetch 84 220 = some (.if_icmp .le 33, 3) := by decide +kernel
theorem zf84_223 : fetch 84 223 = some (.iinc 2 (-1), 3) := by decide +kernel
theorem zf84_226 : fetch 84 226 = some (.aload_n 0, 1) := by decide +kernel
theorem zf84_227 : fetch 84 227 = some (.getfield 29, 3) := by decide +kernel
theorem zf84_230 : fetch 84 230 = some (.iload_n 2, 1) := by decide +kernel
theorem zf84_231 : fetch 84 231 = some (.iconst 1, 1) := by decide +kernel
theorem zf84_232 : fetch 84 232 = some (.isub, 1) := by decide +kernel
theorem zf84_233 : fetch 84 233 = some (.iload 4, 2) := by decide +kernel
theorem zf84_235 : fetch 84 235 = some (.aload_n 0, 1) := by decide +kernel
theorem zf84_236 : fetch 84 236 = some (.getfield 29, 3) := by decide +kernel
theorem zf84_239 : fetch 84 239 = some (.iload_n 2, 1) := by decide +kernel
theorem zf84_240 : fetch 84 240 = some (.iconst 1, 1) := by decide +kernel
theorem zf84_241 : fetch 84 241 = some (.isub, 1) := by decide +kernel
theorem zf84_242 : fetch 84 242 = some (.iaload, 1) := by decide +kernel
theorem zf84_243 : fetch 84 243 = some (.aload_n 0, 1) := by decide +kernel
theorem zf84_244 : fetch 84 244 = some (.getfield 29, 3) := by decide +kernel
theorem zf84_247 : fetch 84 247 = some (.iload_n 2, 1) := by decide +kernel
theorem zf84_248 : fetch 84 248 = some (.iaload, 1) := by decide +kernel
theorem zf84_249 : fetch 84 249 = some (.invokestatic 51, 3) := by decide +kernel
theorem zf84_252 : fetch 84 252 = some (.iastore, 1) := by decide +kernel
theorem zf128_128 : fetch 128 128 = some (.istore 7, 2) := by decide +kernel
theorem zf128_130 : fetch 128 130 = some (.iload 7, 2) := by decide +kernel
theorem zf128_132 : fetch 128 132 = some (.iconst (-1), 1) := by decide +kernel
theorem zf128_133 : fetch 128 133 = some (.if_icmp .eq 34, 3) := by decide +kernel
theorem zf128_167 : fetch 128 167 = some (.iinc 6 1, 3) := by decide +kernel
theorem zf128_170 : fetch 128 170 = some (.goto (-108), 3) := by decide +kernel
theorem zf128_136 : fetch 128 136 = some (.aload_n 0, 1) := by decide +kernel
theorem zf128_137 : fetch 128 137 = some (.iload 5, 2) := by decide +kernel
theorem zf128_139 : fetch 128 139 = some (.iload 4, 2) := by decide +kernel
theorem zf128_141 : fetch 128 141 = some (.aload_n 0, 1) := by decide +kernel
theorem zf128_142 : fetch 128 142 = some (.getfield 17, 3) := by decide +kernel
theorem zf128_145 : fetch 128 145 = some (.iload 6, 2) := by decide +kernel
theorem zf128_147 : fetch 128 147 = some (.iaload, 1) := by decide +kernel
theorem zf128_148 : fetch 128 148 = some (.iload 7, 2) := by decide +kernel
theorem zf128_150 : fetch 128 150 = some (.iadd, 1) := by decide +kernel
theorem zf128_151 : fetch 128 151 = some (.aload_n 0, 1) := by decide +kernel
theorem zf128_152 : fetch 128 152 = some (.getfield 20, 3) := by decide +kernel
theorem zf128_155 : fetch 128 155 = some (.iload 6, 2) := by decide +kernel
theorem zf128_157 : fetch 128 157 = some (.iaload, 1) := by decide +kernel
theorem zf128_158 : fetch 128 158 = some (.bipush 10, 2) := by decide +kernel
theorem zf128_160 : fetch 128 160 = some (.imul, 1) := by decide +kernel
theorem zf128_161 : fetch 128 161 = some (.iload 5, 2) := by decide +kernel
theorem zf128_163 : fetch 128 163 = some (.iadd, 1) := by decide +kernel
theorem zf128_164 : fetch 128 164 = some (.invokevirtual 53, 3) := by decide +kernel
theorem zf134_0 : fetch 134 0 = some (.iload_n 2, 1) := by decide +kernel
theorem zf134_1 : fetch 134 1 = some (.bipush 10, 2) := by decide +kernel
theorem zf134_3 : fetch 134 3 = some (.idiv, 1) := by decide +kernel
theorem zf134_4 : fetch 134 4 = some (.istore 6, 2) := by decide +kernel
theorem zf134_6 : fetch 134 6 = some (.iload_n 2, 1) := by decide +kernel
theorem zf134_7 : fetch 134 7 = some (.bipush 10, 2) := by decide +kernel
theorem zf134_9 : fetch 134 9 = some (.irem, 1) := by decide +kernel
theorem zf134_10 : fetch 134 10 = some (.istore 7, 2) := by decide +kernel
theorem zf134_12 : fetch 134 12 = some (.aload_n 0, 1) := by decide +kernel
theorem zf134_13 : fetch 134 13 = some (.getfield 26, 3) := by decide +kernel
theorem zf134_16 : fetch 134 16 = some (.iload 6, 2) := by decide +kernel
theorem zf134_18 : fetch 134 18 = some (.iaload, 1) := by decide +kernel
theorem zf134_19 : fetch 134 19 = some (.istore 8, 2) := by decide +kernel
theorem zf134_21 : fetch 134 21 = some (.iload 4, 2) := by decide +kernel
theorem zf134_23 : fetch 134 23 = some (.iload 8, 2) := by decide +kernel
theorem zf134_25 : fetch 134 25 = some (.ishr, 1) := by decide +kernel
theorem zf134_26 : fetch 134 26 = some (.iconst 1, 1) := by decide +kernel
theorem zf134_27 : fetch 134 27 = some (.iand, 1) := by decide +kernel
theorem zf134_28 : fetch 134 28 = some (.ifCond .eq 13, 3) := by decide +kernel
theorem zf134_41 : fetch 134 41 = some (.iload 4, 2) := by decide +kernel
theorem zf134_31 : fetch 134 31 = some (.iload 4, 2) := by decide +kernel
theorem zf134_33 : fetch 134 33 = some (.iconst 1, 1) := by decide +kernel
theorem zf134_34 : fetch 134 34 = some (.iload 7, 2) := by decide +kernel
theorem zf134_36 : fetch 134 36 = some (.ishl, 1) := by decide +kernel
theorem zf134_37 : fetch 134 37 = some (.ior, 1) := by decide +kernel
theorem zf134_38 : fetch 134 38 = some (.goto 5, 3) := by decide +kernel
theorem zf191_2 : fetch 191 2 = some (.iload_n 2, 1) := by decide +kernel
theorem zf191_3 : fetch 191 3 = some (.aload_n 0, 1) := by decide +kernel
theorem zf191_4 : fetch 191 4 = some (.invokevirtual 99, 3) := by decide +kernel
theorem zf191_7 : fetch 191 7 = some (.if_icmp .ge 20, 3) := by decide +kernel
theorem zf191_27 : fetch 191 27 = some (.iconst (-1), 1) := by decide +kernel
theorem zf191_28 : fetch 191 28 = some (.ireturn, 1) := by decide +kernel
theorem zf191_10 : fetch 191 10 = some (.aload_n 0, 1) := by decide +kernel
theorem zf191_11 : fetch 191 11 = some (.iload_n 2, 1) := by decide +kernel
theorem zf191_12 : fetch 191 12 = some (.invokevirtual 105, 3) := by decide +kernel
theorem zf191_15 : fetch 191 15 = some (.iload_n 1, 1) := by decide +kernel
theorem zf191_16 : fetch 191 16 = some (.if_icmp .ne 5, 3) := by decide +kernel
theorem zf191_21 : fetch 191 21 = some (.iinc 2 1, 3) := by decide +kernel
theorem zf191_24 : fetch 191 24 = some (.goto (-22), 3) := by decide +kernel
theorem zf191_19 : fetch 191 19 = some (.iload_n 2, 1) := by decide +kernel
theorem zf191_20 : fetch 191 20 = some (.ireturn, 1) := by decide +kernel
theorem zf196_0 : fetch 196 0 = some (.aload_n 0, 1) := by decide +kernel
theorem zf196_1 : fetch 196 1 = some (.getfield 119, 3) := by decide +kernel
theorem zf196_4 : fetch 196 4 = some (.aload_n 0, 1) := by decide +kernel
theorem zf196_5 : fetch 196 5 = some (.getfield 122, 3) := by decide +kernel
theorem zf196_8 : fetch 196 8 = some (.if_icmp .ge 45, 3) := by decide +kernel
theorem zf196_53 : fetch 196 53 = some (.iconst 0, 1) := by decide +kernel
theorem zf196_54 : fetch 196 54 = some (.ireturn, 1) := by decide +kernel
theorem zf196_11 : fetch 196 11 = some (.aload_n 0, 1) := by decide +kernel
theorem zf196_12 : fetch 196 12 = some (.getfield 23, 3) := by decide +kernel
theorem zf196_15 : fetch 196 15 = some (.aload_n 0, 1) := by decide +kernel
theorem zf196_16 : fetch 196 16 = some (.getfield 125, 3) := by decide +kernel
theorem zf196_19 : fetch 196 19 = some (.aload_n 0, 1) := by decide +kernel
theorem zf196_20 : fetch 196 20 = some (.getfield 119, 3) := by decide +kernel
theorem zf196_23 : fetch 196 23 = some (.iadd, 1) := by decide +kernel
theorem zf196_24 : fetch 196 24 = some (.baload, 1) := by decide +kernel
theorem zf196_25 : fetch 196 25 = some (.bipush 48, 2) := by decide +kernel
theorem zf196_27 : fetch 196 27 = some (.if_icmp .lt 26, 3) := by decide +kernel
theorem zf196_30 : fetch 196 30 = some (.aload_n 0, 1) := by decide +kernel
theorem zf196_31 : fetch 196 31 = some (.getfield 23, 3) := by decide +kernel
theorem zf196_34 : fetch 196 34 = some (.aload_n 0, 1) := by decide +kernel
theorem zf196_35 : fetch 196 35 = some (.getfield 125, 3) := by decide +kernel
theorem zf196_38 : fetch 196 38 = some (.aload_n 0, 1) := by decide +kernel
theorem zf196_39 : fetch 196 39 = some (.getfield 119, 3) := by decide +kernel
theorem zf196_42 : fetch 196 42 = some (.iadd, 1) := by decide +kernel
theorem zf196_43 : fetch 196 43 = some (.baload, 1) := by decide +kernel
theorem zf196_44 : fetch 196 44 = some (.bipush 57, 2) := by decide +kernel
theorem zf196_46 : fetch 196 46 = some (.if_icmp .gt 7, 3) := by decide +kernel
theorem zf196_49 : fetch 196 49 = some (.iconst 1, 1) := by decide +kernel
theorem zf196_50 : fetch 196 50 = some (.goto 4, 3) := by decide +kernel
theorem zf28_0 : fetch 28 0 = some (.aload_n 0, 1) := by decide +kernel
theorem zf28_1 : fetch 28 1 = some (.getfield 9, 3) := by decide +kernel
theorem zf28_4 : fetch 28 4 = some (.arraylength, 1) := by decide +kernel
theorem zf28_5 : fetch 28 5 = some (.aload_n 0, 1) := by decide +kernel
theorem zf28_6 : fetch 28 6 = some (.invokevirtual 335, 3) := by decide +kernel
theorem zf28_9 : fetch 28 9 = some (.ishr, 1) := by decide +kernel
theorem zf28_10 : fetch 28 10 = some (.ireturn, 1) := by decide +kernel
theorem zf11_0 : fetch 11 0 = some (.aload_n 0, 1) := by decide +kernel
theorem zf11_1 : fetch 11 1 = some (.invokevirtual 492, 3) := by decide +kernel
theorem zf11_4 : fetch 11 4 = some (.ifCond .eq 12, 3) := by decide +kernel
theorem zf11_16 : fetch 11 16 = some (.aload_n 0, 1) := by decide +kernel
theorem zf11_17 : fetch 11 17 = some (.getfield 9, 3) := by decide +kernel
theorem zf11_20 : fetch 11 20 = some (.iload_n 1, 1) := by decide +kernel
theorem zf11_21 : fetch 11 21 = some (.invokestatic 498, 3) := by decide +kernel
theorem zf11_7 : fetch 11 7 = some (.aload_n 0, 1) := by decide +kernel
theorem zf11_8 : fetch 11 8 = some (.getfield 9, 3) := by decide +kernel
theorem zf11_11 : fetch 11 11 = some (.iload_n 1, 1) := by decide +kernel
theorem zf11_12 : fetch 11 12 = some (.invokestatic 495, 3) := by decide +kernel
theorem zf11_15 : fetch 11 15 = some (.ireturn, 1) := by decide +kernel
theorem zf212_0 : fetch 212 0 = some (.aload_n 0, 1) := by decide +kernel
theorem zf212_1 : fetch 212 1 = some (.invokevirtual 138, 3) := by decide +kernel
theorem zf212_4 : fetch 212 4 = some (.istore_n 1, 1) := by decide +kernel
theorem zf212_5 : fetch 212 5 = some (.iload_n 1, 1) := by decide +kernel
theorem zf212_6 : fetch 212 6 = some (.bipush 33, 2) := by decide +kernel
theorem zf212_8 : fetch 212 8 = some (.if_icmp .ne 37, 3) := by decide +kernel
theorem zf212_45 : fetch 212 45 = some (.iload_n 1, 1) := by decide +kernel
theorem zf212_46 : fetch 212 46 = some (.bipush 40, 2) := by decide +kernel
theorem zf212_48 : fetch 212 48 = some (.if_icmp .ne 42, 3) := by decide +kernel
theorem zf212_90 : fetch 212 90 = some (.aload_n 0, 1) := by decide +kernel
theorem zf212_91 : fetch 212 91 = some (.iconst 0, 1) := by decide +kernel
theorem zf212_92 : fetch 212 92 = some (.iconst 0, 1) := by decide +kernel
theorem zf212_93 : fetch 212 93 = some (.invokevirtual 191, 3) := by decide +kernel
theorem zf212_96 : fetch 212 96 = some (.ireturn, 1) := by decide +kernel
theorem zf212_51 : fetch 212 51 = some (.aload_n 0, 1) := by decide +kernel
theorem zf212_52 : fetch 212 52 = some (.invokevirtual 158, 3) := by decide +kernel
theorem zf212_55 : fetch 212 55 = some (.ifCond .ne 5, 3) := by decide +kernel
theorem zf212_60 : fetch 212 60 = some (.aload_n 0, 1) := by decide +kernel
theorem zf212_61 : fetch 212 61 = some (.iconst 0, 1) := by decide +kernel
theorem zf212_62 : fetch 212 62 = some (.iconst 0, 1) := by decide +kernel
theorem zf212_63 : fetch 212 63 = some (.invokevirtual 187, 3) := by decide +kernel
theorem zf212_66 : fetch 212 66 = some (.istore_n 2, 1) := by decide +kernel
theorem zf212_67 : fetch 212 67 = some (.aload_n 0, 1) := by decide +kernel
theorem zf212_68 : fetch 212 68 = some (.bipush 41, 2) := by decide +kernel
theorem zf212_70 : fetch 212 70 = some (.invokevirtual 164, 3) := by decide +kernel
theorem zf212_73 : fetch 212 73 = some (.ifCond .ne 5, 3) := by decide +kernel
theorem zf212_78 : fetch 212 78 = some (.aload_n 0, 1) := by decide +kernel
theorem zf212_79 : fetch 212 79 = some (.dup, 1) := by decide +kernel
theorem zf212_80 : fetch 212 80 = some (.getfield 131, 3) := by decide +kernel
theorem zf212_83 : fetch 212 83 = some (.iconst 1, 1) := by decide +kernel
theorem zf212_84 : fetch 212 84 = some (.isub, 1) := by decide +kernel
theorem zf212_85 : fetch 212 85 = some (.putfield 131, 3) := by decide +kernel
theorem zf212_88 : fetch 212 88 = some (.iload_n 2, 1) := by decide +kernel
theorem zf212_89 : fetch 212 89 = some (.ireturn, 1) := by decide +kernel
theorem zf212_76 : fetch 212 76 = some (.iconst 0, 1) := by decide +kernel
theorem zf212_77 : fetch 212 77 = some (.ireturn, 1) := by decide +kernel
theorem zf212_58 : fetch 212 58 = some (.iconst 0, 1) := by decide +kernel
theorem zf212_59 : fetch 212 59 = some (.ireturn, 1) := by decide +kernel
theorem zf212_11 : fetch 212 11 = some (.aload_n 0, 1) := by decide +kernel
theorem zf212_12 : fetch 212 12 = some (.invokevirtual 158, 3) := by decide +kernel
theorem zf212_15 : fetch 212 15 = some (.ifCond .ne 5, 3) := by decide +kernel
theorem zf212_20 : fetch 212 20 = some (.aload_n 0, 1) := by decide +kernel
theorem zf212_21 : fetch 212 21 = some (.invokevirtual 184, 3) := by decide +kernel
theorem zf212_24 : fetch 212 24 = some (.istore_n 2, 1) := by decide +kernel
theorem zf212_25 : fetch 212 25 = some (.aload_n 0, 1) := by decide +kernel
theorem zf212_26 : fetch 212 26 = some (.dup, 1) := by decide +kernel
theorem zf212_27 : fetch 212 27 = some (.getfield 131, 3) := by decide +kernel
theorem zf212_30 : fetch 212 30 = some (.iconst 1, 1) := by decide +kernel
theorem zf212_31 : fetch 212 31 = some (.isub, 1) := by decide +kernel
theorem zf212_32 : fetch 212 32 = some (.putfield 131, 3) := by decide +kernel
theorem zf212_35 : fetch 212 35 = some (.iload_n 2, 1) := by decide +kernel
theorem zf212_36 : fetch 212 36 = some (.ifCond .ne 7, 3) := by decide +kernel
theorem zf212_43 : fetch 212 43 = some (.iconst 0, 1) := by decide +kernel
theorem zf212_44 : fetch 212 44 = some (.ireturn, 1) := by decide +kernel
theorem zf212_39 : fetch 212 39 = some (.iconst 1, 1) := by decide +kernel
theorem zf212_40 : fetch 212 40 = some (.goto 4, 3) := by decide +kernel
theorem zf212_18 : fetch 212 18 = some (.iconst 0, 1) := by decide +kernel
theorem zf212_19 : fetch 212 19 = some (.ireturn, 1) := by decide +kernel
theorem zf204_18 : fetch 204 18 = some (.aload_n 0, 1) := by decide +kernel
theorem zf204_19 : fetch 204 19 = some (.getfield 128, 3) := by decide +kernel
theorem zf204_22 : fetch 204 22 = some (.iconst (-1), 1) := by decide +kernel
theorem zf204_23 : fetch 204 23 = some (.if_icmp .ne 46, 3) := by decide +kernel
theorem zf204_69 : fetch 204 69 = some (.iload_n 3, 1) := by decide +kernel
theorem zf204_70 : fetch 204 70 = some (.ireturn, 1) := by decide +kernel
theorem zf204_26 : fetch 204 26 = some (.aload_n 0, 1) := by decide +kernel
theorem zf204_27 : fetch 204 27 = some (.invokevirtual 138, 3) := by decide +kernel
theorem zf204_30 : fetch 204 30 = some (.bipush 38, 2) := by decide +kernel
theorem zf204_32 : fetch 204 32 = some (.if_icmp .ne 37, 3) := by decide +kernel
theorem zf204_35 : fetch 204 35 = some (.aload_n 0, 1) := by decide +kernel
theorem zf204_36 : fetch 204 36 = some (.dup, 1) := by decide +kernel
theorem zf204_37 : fetch 204 37 = some (.getfield 119, 3) := by decide +kernel
theorem zf204_40 : fetch 204 40 = some (.iconst 1, 1) := by decide +kernel
theorem zf204_41 : fetch 204 41 = some (.iadd, 1) := by decide +kernel
theorem zf204_42 : fetch 204 42 = some (.putfield 119, 3) := by decide +kernel
theorem zf204_45 : fetch 204 45 = some (.aload_n 0, 1) := by decide +kernel
theorem zf204_46 : fetch 204 46 = some (.invokevirtual 184, 3) := by decide +kernel
theorem zf204_49 : fetch 204 49 = some (.istore 4, 2) := by decide +kernel
theorem zf204_51 : fetch 204 51 = some (.iload_n 3, 1) := by decide +kernel
theorem zf204_52 : fetch 204 52 = some (.ifCond .eq 12, 3) := by decide +kernel
theorem zf204_64 : fetch 204 64 = some (.iconst 0, 1) := by decide +kernel
theorem zf204_65 : fetch 204 65 = some (.istore_n 3, 1) := by decide +kernel
theorem zf204_66 : fetch 204 66 = some (.goto (-48), 3) := by decide +kernel
theorem zf204_55 : fetch 204 55 = some (.iload 4, 2) := by decide +kernel
theorem zf204_57 : fetch 204 57 = some (.ifCond .eq 7, 3) := by decide +kernel
theorem zf204_60 : fetch 204 60 = some (.iconst 1, 1) := by decide +kernel
theorem zf204_61 : fetch 204 61 = some (.goto 4, 3) := by decide +kernel
theorem zf205_0 : fetch 205 0 = some (.iload_n 1, 1) := by decide +kernel
theorem zf205_1 : fetch 205 1 = some (.ifCond .eq 7, 3) := by decide +kernel
theorem zf205_8 : fetch 205 8 = some (.aload_n 0, 1) := by decide +kernel
theorem zf205_9 : fetch 205 9 = some (.invokevirtual 161, 3) := by decide +kernel
theorem zf205_4 : fetch 205 4 = some (.iload_n 2, 1) := by decide +kernel
theorem zf205_5 : fetch 205 5 = some (.goto 7, 3) := by decide +kernel
theorem zf208_0 : fetch 208 0 = some (.aload_n 0, 1) := by decide +kernel
theorem zf208_1 : fetch 208 1 = some (.invokevirtual 138, 3) := by decide +kernel
theorem zf208_4 : fetch 208 4 = some (.istore_n 1, 1) := by decide +kernel
theorem zf208_5 : fetch 208 5 = some (.ldc 32, 2) := by decide +kernel
theorem zf208_7 : fetch 208 7 = some (.iload_n 1, 1) := by decide +kernel
theorem zf208_8 : fetch 208 8 = some (.invokestatic 154, 3) := by decide +kernel
theorem zf208_11 : fetch 208 11 = some (.ifCond .eq 20, 3) := by decide +kernel
theorem zf208_31 : fetch 208 31 = some (.iload_n 1, 1) := by decide +kernel
theorem zf208_32 : fetch 208 32 = some (.bipush 91, 2) := by decide +kernel
theorem zf208_34 : fetch 208 34 = some (.if_icmp .ne 40, 3) := by decide +kernel
theorem zf208_74 : fetch 208 74 = some (.aload_n 0, 1) := by decide +kernel
theorem zf208_75 : fetch 208 75 = some (.invokevirtual 168, 3) := by decide +kernel
theorem zf208_78 : fetch 208 78 = some (.ifCond .ne 8, 3) := by decide +kernel
theorem zf208_86 : fetch 208 86 = some (.iconst 0, 1) := by decide +kernel
theorem zf208_87 : fetch 208 87 = some (.istore_n 2, 1) := by decide +kernel
theorem zf208_88 : fetch 208 88 = some (.iconst 0, 1) := by decide +kernel
theorem zf208_89 : fetch 208 89 = some (.istore_n 3, 1) := by decide +kernel
theorem zf208_81 : fetch 208 81 = some (.aload_n 0, 1) := by decide +kernel
theorem zf208_82 : fetch 208 82 = some (.invokevirtual 134, 3) := by decide +kernel
theorem zf208_85 : fetch 208 85 = some (.pop, 1) := by decide +kernel
theorem zf208_37 : fetch 208 37 = some (.aload_n 0, 1) := by decide +kernel
theorem zf208_38 : fetch 208 38 = some (.invokevirtual 158, 3) := by decide +kernel
theorem zf208_41 : fetch 208 41 = some (.ifCond .ne 5, 3) := by decide +kernel
theorem zf208_46 : fetch 208 46 = some (.aload_n 0, 1) := by decide +kernel
theorem zf208_47 : fetch 208 47 = some (.invokevirtual 161, 3) := by decide +kernel
theorem zf208_50 : fetch 208 50 = some (.istore_n 2, 1) := by decide +kernel
theorem zf208_51 : fetch 208 51 = some (.aload_n 0, 1) := by decide +kernel
theorem zf208_52 : fetch 208 52 = some (.bipush 93, 2) := by decide +kernel
theorem zf208_54 : fetch 208 54 = some (.invokevirtual 164, 3) := by decide +kernel
theorem zf208_57 : fetch 208 57 = some (.ifCond .ne 5, 3) := by decide +kernel
theorem zf208_62 : fetch 208 62 = some (.aload_n 0, 1) := by decide +kernel
theorem zf208_63 : fetch 208 63 = some (.dup, 1) := by decide +kernel
theorem zf208_64 : fetch 208 64 = some (.getfield 131, 3) := by decide +kernel
theorem zf208_67 : fetch 208 67 = some (.iconst 1, 1) := by decide +kernel
theorem zf208_68 : fetch 208 68 = some (.isub, 1) := by decide +kernel
theorem zf208_69 : fetch 208 69 = some (.putfield 131, 3) := by decide +kernel
theorem zf208_72 : fetch 208 72 = some (.iload_n 2, 1) := by decide +kernel
theorem zf208_73 : fetch 208 73 = some (.ireturn, 1) := by decide +kernel
theorem zf208_60 : fetch 208 60 = some (.iconst 0, 1) := by decide +kernel
theorem zf208_61 : fetch 208 61 = some (.ireturn, 1) := by decide +kernel
theorem zf208_44 : fetch 208 44 = some (.iconst 0, 1) := by decide +kernel
theorem zf208_45 : fetch 208 45 = some (.ireturn, 1) := by decide +kernel
theorem zf208_14 : fetch 208 14 = some (.aload_n 0, 1) := by decide +kernel
theorem zf208_15 : fetch 208 15 = some (.dup, 1) := by decide +kernel
theorem zf208_16 : fetch 208 16 = some (.getfield 119, 3) := by decide +kernel
theorem zf208_19 : fetch 208 19 = some (.iconst 1, 1) := by decide +kernel
theorem zf208_20 : fetch 208 20 = some (.iadd, 1) := by decide +kernel
theorem zf208_21 : fetch 208 21 = some (.putfield 119, 3) := by decide +kernel
theorem zf208_24 : fetch 208 24 = some (.aload_n 0, 1) := by decide +kernel
theorem zf208_25 : fetch 208 25 = some (.getfield 20, 3) := by decide +kernel
theorem zf208_28 : fetch 208 28 = some (.iload_n 1, 1) := by decide +kernel
theorem zf208_29 : fetch 208 29 = some (.iaload, 1) := by decide +kernel
theorem zf208_30 : fetch 208 30 = some (.ireturn, 1) := by decide +kernel
theorem zf207_5 : fetch 207 5 = some (.aload_n 0, 1) := by decide +kernel
theorem zf207_6 : fetch 207 6 = some (.getfield 128, 3) := by decide +kernel
theorem zf207_9 : fetch 207 9 = some (.iconst (-1), 1) := by decide +kernel
theorem zf207_10 : fetch 207 10 = some (.if_icmp .ne 84, 3) := by decide +kernel
theorem zf207_94 : fetch 207 94 = some (.iload_n 1, 1) := by decide +kernel
theorem zf207_95 : fetch 207 95 = some (.ireturn, 1) := by decide +kernel
theorem zf207_13 : fetch 207 13 = some (.aload_n 0, 1) := by decide +kernel
theorem zf207_14 : fetch 207 14 = some (.invokevirtual 138, 3) := by decide +kernel
theorem zf207_17 : fetch 207 17 = some (.bipush 42, 2) := by decide +kernel
theorem zf207_19 : fetch 207 19 = some (.if_icmp .eq 12, 3) := by decide +kernel
theorem zf207_31 : fetch 207 31 = some (.aload_n 0, 1) := by decide +kernel
theorem zf207_32 : fetch 207 32 = some (.invokevirtual 138, 3) := by decide +kernel
theorem zf207_35 : fetch 207 35 = some (.bipush 42, 2) := by decide +kernel
theorem zf207_37 : fetch 207 37 = some (.if_icmp .ne 7, 3) := by decide +kernel
theorem zf207_44 : fetch 207 44 = some (.iconst 0, 1) := by decide +kernel
theorem zf207_40 : fetch 207 40 = some (.iconst 1, 1) := by decide +kernel
theorem zf207_41 : fetch 207 41 = some (.goto 4, 3) := by decide +kernel
theorem zf207_22 : fetch 207 22 = some (.aload_n 0, 1) := by decide +kernel
theorem zf207_23 : fetch 207 23 = some (.invokevirtual 138, 3) := by decide +kernel
theorem zf207_26 : fetch 207 26 = some (.bipush 47, 2) := by decide +kernel
theorem zf207_28 : fetch 207 28 = some (.if_icmp .ne 66, 3) := by decide +kernel
theorem zf206_45 : fetch 206 45 = some (.istore_n 2, 1) := by decide +kernel
theorem zf206_46 : fetch 206 46 = some (.aload_n 0, 1) := by decide +kernel
theorem zf206_47 : fetch 206 47 = some (.dup, 1) := by decide +kernel
theorem zf206_48 : fetch 206 48 = some (.getfield 119, 3) := by decide +kernel
theorem zf206_51 : fetch 206 51 = some (.iconst 1, 1) := by decide +kernel
theorem zf206_52 : fetch 206 52 = some (.iadd, 1) := by decide +kernel
theorem zf206_53 : fetch 206 53 = some (.putfield 119, 3) := by decide +kernel
theorem zf206_56 : fetch 206 56 = some (.aload_n 0, 1) := by decide +kernel
theorem zf206_57 : fetch 206 57 = some (.invokevirtual 178, 3) := by decide +kernel
theorem zf206_60 : fetch 206 60 = some (.i2l, 1) := by decide +kernel
theorem zf206_61 : fetch 206 61 = some (.lstore_n 3, 1) := by decide +kernel
theorem zf206_62 : fetch 206 62 = some (.iload_n 2, 1) := by decide +kernel
theorem zf206_63 : fetch 206 63 = some (.ifCond .eq 10, 3) := by decide +kernel
theorem zf206_73 : fetch 206 73 = some (.iload_n 1, 1) := by decide +kernel
theorem zf206_74 : fetch 206 74 = some (.i2l, 1) := by decide +kernel
theorem zf206_75 : fetch 206 75 = some (.lload_n 3, 1) := by decide +kernel
theorem zf206_76 : fetch 206 76 = some (.lsub, 1) := by decide +kernel
theorem zf206_77 : fetch 206 77 = some (.invokestatic 174, 3) := by decide +kernel
theorem zf206_80 : fetch 206 80 = some (.istore_n 1, 1) := by decide +kernel
theorem zf206_81 : fetch 206 81 = some (.goto (-76), 3) := by decide +kernel
theorem zf206_66 : fetch 206 66 = some (.iload_n 1, 1) := by decide +kernel
theorem zf206_67 : fetch 206 67 = some (.i2l, 1) := by decide +kernel
theorem zf206_68 : fetch 206 68 = some (.lload_n 3, 1) := by decide +kernel
theorem zf206_69 : fetch 206 69 = some (.ladd, 1) := by decide +kernel
theorem zf206_70 : fetch 206 70 = some (.goto 7, 3) := by decide +kernel
theorem zf198_2 : fetch 198 2 = some (.iload_n 1, 1) := by decide +kernel
theorem zf198_3 : fetch 198 3 = some (.aload_n 0, 1) := by decide +kernel
theorem zf198_4 : fetch 198 4 = some (.getfield 245, 3) := by decide +kernel
theorem zf198_7 : fetch 198 7 = some (.if_icmp .ge 43, 3) := by decide +kernel
theorem zf198_50 : fetch 198 50 = some (.iconst 0, 1) := by decide +kernel
theorem zf198_51 : fetch 198 51 = some (.istore_n 1, 1) := by decide +kernel
theorem zf198_10 : fetch 198 10 = some (.iconst 0, 1) := by decide +kernel
theorem zf198_11 : fetch 198 11 = some (.istore_n 2, 1) := by decide +kernel
theorem zf190_0 : fetch 190 0 = some (.iconst 0, 1) := by decide +kernel
theorem zf190_1 : fetch 190 1 = some (.istore 5, 2) := by decide +kernel
theorem zf216_322 : fetch 216 322 = some (.iload_n 3, 1) := by decide +kernel
theorem zf216_323 : fetch 216 323 = some (.aload_n 0, 1) := by decide +kernel
theorem zf216_324 : fetch 216 324 = some (.getfield 294, 3) := by decide +kernel
theorem zf216_327 : fetch 216 327 = some (.if_icmp .ge 27, 3) := by decide +kernel
theorem zf216_354 : fetch 216 354 = some (.iconst 0, 1) := by decide +kernel
theorem zf216_355 : fetch 216 355 = some (.istore_n 3, 1) := by decide +kernel
theorem zf216_330 : fetch 216 330 = some (.aload_n 0, 1) := by decide +kernel
theorem zf216_331 : fetch 216 331 = some (.getfield 61, 3) := by decide +kernel
theorem zf216_334 : fetch 216 334 = some (.iconst 0, 1) := by decide +kernel
theorem zf216_335 : fetch 216 335 = some (.iload_n 3, 1) := by decide +kernel
theorem zf216_336 : fetch 216 336 = some (.iadd, 1) := by decide +kernel
theorem zf216_337 : fetch 216 337 = some (.aload_n 0, 1) := by decide +kernel
theorem zf216_338 : fetch 216 338 = some (.getfield 43, 3) := by decide +kernel
theorem zf216_341 : fetch 216 341 = some (.iconst 3, 1) := by decide +kernel
theorem zf216_342 : fetch 216 342 = some (.iload_n 3, 1) := by decide +kernel
theorem zf216_343 : fetch 216 343 = some (.imul, 1) := by decide +kernel
theorem zf216_344 : fetch 216 344 = some (.iconst 2, 1) := by decide +kernel
theorem zf216_345 : fetch 216 345 = some (.iadd, 1) := by decide +kernel
theorem zf216_346 : fetch 216 346 = some (.iaload, 1) := by decide +kernel
theorem zf216_347 : fetch 216 347 = some (.iastore, 1) := by decide +kernel
theorem zf216_348 : fetch 216 348 = some (.iinc 3 1, 3) := by decide +kernel
theorem zf216_351 : fetch 216 351 = some (.goto (-29), 3) := by decide +kernel
theorem zf264_112 : fetch 264 112 = some (.if_icmp .ne 21, 3) := by decide +kernel
theorem zf264_115 : fetch 264 115 = some (.aload_n 0, 1) := by decide +kernel
theorem zf264_116 : fetch 264 116 = some (.getfield 74, 3) := by decide +kernel
theorem zf264_119 : fetch 264 119 = some (.bipush 8, 2) := by decide +kernel
theorem zf264_121 : fetch 264 121 = some (.bipush 8, 2) := by decide +kernel
theorem zf264_123 : fetch 264 123 = some (.iload_n 1, 1) := by decide +kernel
theorem zf264_124 : fetch 264 124 = some (.imul, 1) := by decide +kernel
theorem zf264_125 : fetch 264 125 = some (.iload_n 2, 1) := by decide +kernel
theorem zf264_126 : fetch 264 126 = some (.iadd, 1) := by decide +kernel
theorem zf264_127 : fetch 264 127 = some (.imul, 1) := by decide +kernel
theorem zf264_128 : fetch 264 128 = some (.iload 5, 2) := by decide +kernel
theorem zf264_130 : fetch 264 130 = some (.iadd, 1) := by decide +kernel
theorem zf264_131 : fetch 264 131 = some (.iload_n 3, 1) := by decide +kernel
theorem zf264_132 : fetch 264 132 = some (.iastore, 1) := by decide +kernel
theorem zf276_19 : fetch 276 19 = some (.iload 4, 2) := by decide +kernel
theorem zf276_21 : fetch 276 21 = some (.aload_n 0, 1) := by decide +kernel
theorem zf276_22 : fetch 276 22 = some (.getfield 297, 3) := by decide +kernel
theorem zf276_25 : fetch 276 25 = some (.if_icmp .ge 56, 3) := by decide +kernel
theorem zf276_81 : fetch 276 81 = some (.iconst 0, 1) := by decide +kernel
theorem zf276_82 : fetch 276 82 = some (.ireturn, 1) := by decide +kernel
theorem zf276_28 : fetch 276 28 = some (.iconst 0, 1) := by decide +kernel
theorem zf276_29 : fetch 276 29 = some (.istore 5, 2) := by decide +kernel
theorem zf283_2 : fetch 283 2 = some (.iload_n 3, 1) := by decide +kernel
theorem zf283_3 : fetch 283 3 = some (.aload_n 0, 1) := by decide +kernel
theorem zf283_4 : fetch 283 4 = some (.getfield 297, 3) := by decide +kernel
theorem zf283_7 : fetch 283 7 = some (.if_icmp .ge 21, 3) := by decide +kernel
theorem zf283_28 : fetch 283 28 = some (.iconst 0, 1) := by decide +kernel
theorem zf283_29 : fetch 283 29 = some (.ireturn, 1) := by decide +kernel
theorem zf283_10 : fetch 283 10 = some (.aload_n 0, 1) := by decide +kernel
theorem zf283_11 : fetch 283 11 = some (.iload_n 3, 1) := by decide +kernel
theorem zf283_12 : fetch 283 12 = some (.iload_n 1, 1) := by decide +kernel
theorem zf283_13 : fetch 283 13 = some (.iload_n 2, 1) := by decide +kernel
theorem zf283_14 : fetch 283 14 = some (.invokevirtual 446, 3) := by decide +kernel
theorem zf283_17 : fetch 283 17 = some (.ifCond .le 5, 3) := by decide +kernel
theorem zf283_22 : fetch 283 22 = some (.iinc 3 1, 3) := by decide +kernel
theorem zf283_25 : fetch 283 25 = some (.goto (-23), 3) := by decide +kernel
theorem zf283_20 : fetch 283 20 = some (.iconst 1, 1) := by decide +kernel
theorem zf283_21 : fetch 283 21 = some (.ireturn, 1) := by decide +kernel
theorem zf10_0 : fetch 10 0 = some (.iload_n 1, 1) := by decide +kernel
theorem zf10_1 : fetch 10 1 = some (.istore_n 3, 1) := by decide +kernel
theorem zf16_0 : fetch 16 0 = some (.iconst 0, 1) := by decide +kernel
theorem zf16_1 : fetch 16 1 = some (.istore_n 2, 1) := by decide +kernel
theorem zf16_2 : fetch 16 2 = some (.iconst 0, 1) := by decide +kernel
theorem zf16_3 : fetch 16 3 = some (.istore_n 3, 1) := by decide +kernel
theorem zf37_0 : fetch 37 0 = some (.aload_n 0, 1) := by decide +kernel
theorem zf37_1 : fetch 37 1 = some (.getfield 17, 3) := by decide +kernel
theorem zf37_4 : fetch 37 4 = some (.invokevirtual 32, 3) := by decide +kernel
theorem zf37_7 : fetch 37 7 = some (.istore_n 3, 1) := by decide +kernel
theorem zf37_8 : fetch 37 8 = some (.iload_n 2, 1) := by decide +kernel
theorem zf37_9 : fetch 37 9 = some (.ifCond .ne 93, 3) := by decide +kernel
theorem zf37_102 : fetch 37 102 = some (.iload_n 2, 1) := by decide +kernel
theorem zf37_103 : fetch 37 103 = some (.ifCond .ne 13, 3) := by decide +kernel
theorem zf37_106 : fetch 37 106 = some (.aload_n 0, 1) := by decide +kernel
theorem zf37_107 : fetch 37 107 = some (.iload_n 1, 1) := by decide +kernel
theorem zf37_108 : fetch 37 108 = some (.invokevirtual 40, 3) := by decide +kernel
theorem zf37_111 : fetch 37 111 = some (.ifCond .ne 5, 3) := by decide +kernel
theorem zf37_114 : fetch 37 114 = some (.iconst 0, 1) := by decide +kernel
theorem zf37_115 : fetch 37 115 = some (.ireturn, 1) := by decide +kernel
theorem zf37_12 : fetch 37 12 = some (.iload_n 3, 1) := by decide +kernel
theorem zf37_13 : fetch 37 13 = some (.bipush 33, 2) := by decide +kernel
theorem zf37_15 : fetch 37 15 = some (.if_icmp .eq 9, 3) := by decide +kernel
theorem zf37_18 : fetch 37 18 = some (.iload_n 3, 1) := by decide +kernel
theorem zf37_19 : fetch 37 19 = some (.bipush 40, 2) := by decide +kernel
theorem zf37_21 : fetch 37 21 = some (.if_icmp .ne 81, 3) := by decide +kernel
theorem zf36_16 : fetch 36 16 = some (.iload 4, 2) := by decide +kernel
theorem zf36_18 : fetch 36 18 = some (.sipush 240, 3) := by decide +kernel
theorem zf36_21 : fetch 36 21 = some (.if_icmp .gt 94, 3) := by decide +kernel
theorem zf36_115 : fetch 36 115 = some (.iload_n 3, 1) := by decide +kernel
theorem zf36_116 : fetch 36 116 = some (.ifCond .eq 10, 3) := by decide +kernel
theorem zf36_126 : fetch 36 126 = some (.iconst 1, 1) := by decide +kernel
theorem zf36_127 : fetch 36 127 = some (.ireturn, 1) := by decide +kernel
theorem zf36_119 : fetch 36 119 = some (.aload_n 0, 1) := by decide +kernel
theorem zf36_120 : fetch 36 120 = some (.bipush 10, 2) := by decide +kernel
theorem zf36_122 : fetch 36 122 = some (.iconst 0, 1) := by decide +kernel
theorem zf36_123 : fetch 36 123 = some (.invokevirtual 50, 3) := by decide +kernel
theorem zf36_24 : fetch 36 24 = some (.aload_n 0, 1) := by decide +kernel
theorem zf36_25 : fetch 36 25 = some (.getfield 17, 3) := by decide +kernel
theorem zf36_28 : fetch 36 28 = some (.bipush 124, 2) := by decide +kernel
theorem zf36_30 : fetch 36 30 = some (.invokevirtual 36, 3) := by decide +kernel
theorem zf36_33 : fetch 36 33 = some (.istore 5, 2) := by decide +kernel
theorem zf36_35 : fetch 36 35 = some (.iload 5, 2) := by decide +kernel
theorem zf36_37 : fetch 36 37 = some (.ifCond .ne 18, 3) := by decide +kernel
theorem zf36_40 : fetch 36 40 = some (.aload_n 0, 1) := by decide +kernel
theorem zf36_41 : fetch 36 41 = some (.getfield 17, 3) := by decide +kernel
theorem zf36_44 : fetch 36 44 = some (.bipush 38, 2) := by decide +kernel
theorem zf36_46 : fetch 36 46 = some (.invokevirtual 36, 3) := by decide +kernel
theorem zf36_49 : fetch 36 49 = some (.ifCond .ne 6, 3) := by decide +kernel
theorem zf36_52 : fetch 36 52 = some (.goto 63, 3) := by decide +kernel
theorem zf26_0 : fetch 26 0 = some (.aload_n 0, 1) := by decide +kernel
theorem zf26_1 : fetch 26 1 = some (.iload_n 1, 1) := by decide +kernel
theorem zf26_2 : fetch 26 2 = some (.iconst 0, 1) := by decide +kernel
theorem zf26_3 : fetch 26 3 = some (.invokevirtual 633, 3) := by decide +kernel
theorem zf26_6 : fetch 26 6 = some (.ireturn, 1) := by decide +kernel
theorem zf25_89 : fetch 25 89 = some (.istore_n 3, 1) := by decide +kernel
theorem zf25_90 : fetch 25 90 = some (.iload_n 3, 1) := by decide +kernel
theorem zf25_91 : fetch 25 91 = some (.ifCond .lt 24, 3) := by decide +kernel
theorem zf25_115 : fetch 25 115 = some (.aload_n 0, 1) := by decide +kernel
theorem zf25_116 : fetch 25 116 = some (.getfield 17, 3) := by decide +kernel
theorem zf25_119 : fetch 25 119 = some (.iconst 4, 1) := by decide +kernel
theorem zf25_120 : fetch 25 120 = some (.invokevirtual 74, 3) := by decide +kernel
theorem zf25_123 : fetch 25 123 = some (.istore 4, 2) := by decide +kernel
theorem zf25_125 : fetch 25 125 = some (.iload 4, 2) := by decide +kernel
theorem zf25_127 : fetch 25 127 = some (.iconst (-1), 1) := by decide +kernel
theorem zf25_128 : fetch 25 128 = some (.if_icmp .ne 5, 3) := by decide +kernel
theorem zf25_133 : fetch 25 133 = some (.aload_n 0, 1) := by decide +kernel
theorem zf25_134 : fetch 25 134 = some (.iconst 0, 1) := by decide +kernel
theorem zf25_135 : fetch 25 135 = some (.iload 4, 2) := by decide +kernel
theorem zf25_137 : fetch 25 137 = some (.invokevirtual 50, 3) := by decide +kernel
theorem zf25_140 : fetch 25 140 = some (.iconst 1, 1) := by decide +kernel
theorem zf25_141 : fetch 25 141 = some (.ireturn, 1) := by decide +kernel
theorem zf25_131 : fetch 25 131 = some (.iconst 0, 1) := by decide +kernel
theorem zf25_132 : fetch 25 132 = some (.ireturn, 1) := by decide +kernel
theorem zf25_94 : fetch 25 94 = some (.aload_n 0, 1) := by decide +kernel
theorem zf25_95 : fetch 25 95 = some (.getfield 17, 3) := by decide +kernel
theorem zf25_98 : fetch 25 98 = some (.dup, 1) := by decide +kernel
theorem zf25_99 : fetch 25 99 = some (.getfield 21, 3) := by decide +kernel
theorem zf25_102 : fetch 25 102 = some (.iconst 1, 1) := by decide +kernel
theorem zf25_103 : fetch 25 103 = some (.iadd, 1) := by decide +kernel
theorem zf25_104 : fetch 25 104 = some (.putfield 21, 3) := by decide +kernel
theorem zf25_107 : fetch 25 107 = some (.aload_n 0, 1) := by decide +kernel
theorem zf25_108 : fetch 25 108 = some (.iconst 1, 1) := by decide +kernel
theorem zf25_109 : fetch 25 109 = some (.iload_n 3, 1) := by decide +kernel
theorem zf25_110 : fetch 25 110 = some (.invokevirtual 50, 3) := by decide +kernel
theorem zf25_113 : fetch 25 113 = some (.iconst 1, 1) := by decide +kernel
theorem zf25_114 : fetch 25 114 = some (.ireturn, 1) := by decide +kernel
theorem zf34_0 : fetch 34 0 = some (.iload_n 0, 1) := by decide +kernel
theorem zf34_1 : fetch 34 1 = some (.tableswitch 47 42 47 #[43, 39, 47, 41, 47, 45], 39) := by decide +kernel
theorem zf34_44 : fetch 34 44 = some (.iconst 4, 1) := by decide +kernel
theorem zf34_45 : fetch 34 45 = some (.ireturn, 1) := by decide +kernel
theorem zf34_40 : fetch 34 40 = some (.iconst 2, 1) := by decide +kernel
theorem zf34_41 : fetch 34 41 = some (.ireturn, 1) := by decide +kernel
theorem zf34_42 : fetch 34 42 = some (.iconst 3, 1) := by decide +kernel
theorem zf34_43 : fetch 34 43 = some (.ireturn, 1) := by decide +kernel
theorem zf34_46 : fetch 34 46 = some (.iconst 5, 1) := by decide +kernel
theorem zf34_47 : fetch 34 47 = some (.ireturn, 1) := by decide +kernel
theorem zf34_48 : fetch 34 48 = some (.iconst (-1), 1) := by decide +kernel
theorem zf34_49 : fetch 34 49 = some (.ireturn, 1) := by decide +kernel
theorem zf24_90 : fetch 24 90 = some (.aload_n 0, 1) := by decide +kernel
theorem zf24_91 : fetch 24 91 = some (.iload_n 1, 1) := by decide +kernel
theorem zf24_92 : fetch 24 92 = some (.invokevirtual 61, 3) := by decide +kernel
theorem zf24_95 : fetch 24 95 = some (.ifCond .ne 5, 3) := by decide +kernel
theorem zf24_100 : fetch 24 100 = some (.iload 5, 2) := by decide +kernel
theorem zf24_102 : fetch 24 102 = some (.ifCond .eq 9, 3) := by decide +kernel
theorem zf24_111 : fetch 24 111 = some (.aload_n 0, 1) := by decide +kernel
theorem zf24_112 : fetch 24 112 = some (.iload 4, 2) := by decide +kernel
theorem zf24_114 : fetch 24 114 = some (.iconst 0, 1) := by decide +kernel
theorem zf24_115 : fetch 24 115 = some (.invokevirtual 50, 3) := by decide +kernel
theorem zf24_118 : fetch 24 118 = some (.iinc 3 1, 3) := by decide +kernel
theorem zf24_121 : fetch 24 121 = some (.goto (-107), 3) := by decide +kernel
theorem zf24_105 : fetch 24 105 = some (.iload 4, 2) := by decide +kernel
theorem zf24_107 : fetch 24 107 = some (.istore_n 2, 1) := by decide +kernel
theorem zf24_108 : fetch 24 108 = some (.goto 10, 3) := by decide +kernel
theorem zf24_98 : fetch 24 98 = some (.iconst 0, 1) := by decide +kernel
theorem zf24_99 : fetch 24 99 = some (.ireturn, 1) := by decide +kernel
theorem zf85_0 : fetch 85 0 = some (.lconst 0, 1) := by decide +kernel
theorem zf85_1 : fetch 85 1 = some (.lstore_n 3, 1) := by decide +kernel
theorem zf85_2 : fetch 85 2 = some (.iload_n 0, 1) := by decide +kernel
theorem zf85_3 : fetch 85 3 = some (.tableswitch 148 2 10 #[49, 57, 65, 74, 90, 104, 118, 132, 140], 49) := by decide +kernel
theorem zf85_52 : fetch 85 52 = some (.iload_n 1, 1) := by decide +kernel
theorem zf85_53 : fetch 85 53 = some (.iload_n 2, 1) := by decide +kernel
theorem zf85_54 : fetch 85 54 = some (.iadd, 1) := by decide +kernel
theorem zf85_55 : fetch 85 55 = some (.i2l, 1) := by decide +kernel
theorem zf85_56 : fetch 85 56 = some (.lstore_n 3, 1) := by decide +kernel
theorem zf85_57 : fetch 85 57 = some (.goto 94, 3) := by decide +kernel
theorem zf85_60 : fetch 85 60 = some (.iload_n 1, 1) := by decide +kernel
theorem zf85_61 : fetch 85 61 = some (.iload_n 2, 1) := by decide +kernel
theorem zf85_62 : fetch 85 62 = some (.isub, 1) := by decide +kernel
theorem zf85_63 : fetch 85 63 = some (.i2l, 1) := by decide +kernel
theorem zf85_64 : fetch 85 64 = some (.lstore_n 3, 1) := by decide +kernel
theorem zf85_65 : fetch 85 65 = some (.goto 86, 3) := by decide +kernel
theorem zf85_68 : fetch 85 68 = some (.iload_n 1, 1) := by decide +kernel
theorem zf85_69 : fetch 85 69 = some (.i2l, 1) := by decide +kernel
theorem zf85_70 : fetch 85 70 = some (.iload_n 2, 1) := by decide +kernel
theorem zf85_71 : fetch 85 71 = some (.i2l, 1) := by decide +kernel
theorem zf85_72 : fetch 85 72 = some (.lmul, 1) := by decide +kernel
theorem zf85_73 : fetch 85 73 = some (.lstore_n 3, 1) := by decide +kernel
theorem zf85_74 : fetch 85 74 = some (.goto 77, 3) := by decide +kernel
theorem zf85_77 : fetch 85 77 = some (.iload_n 2, 1) := by decide +kernel
theorem zf85_78 : fetch 85 78 = some (.ifCond .ne 7, 3) := by decide +kernel
theorem zf85_85 : fetch 85 85 = some (.iload_n 1, 1) := by decide +kernel
theorem zf85_86 : fetch 85 86 = some (.iload_n 2, 1) := by decide +kernel
theorem zf85_87 : fetch 85 87 = some (.idiv, 1) := by decide +kernel
theorem zf85_88 : fetch 85 88 = some (.i2l, 1) := by decide +kernel
theorem zf85_89 : fetch 85 89 = some (.lstore_n 3, 1) := by decide +kernel
theorem zf85_90 : fetch 85 90 = some (.goto 61, 3) := by decide +kernel
theorem zf85_81 : fetch 85 81 = some (.lconst 0, 1) := by decide +kernel
theorem zf85_82 : fetch 85 82 = some (.goto 7, 3) := by decide +kernel
theorem zf85_93 : fetch 85 93 = some (.iload_n 1, 1) := by decide +kernel
theorem zf85_94 : fetch 85 94 = some (.iload_n 2, 1) := by decide +kernel
theorem zf85_95 : fetch 85 95 = some (.if_icmp .ne 7, 3) := by decide +kernel
theorem zf85_102 : fetch 85 102 = some (.lconst 0, 1) := by decide +kernel
theorem zf85_103 : fetch 85 103 = some (.lstore_n 3, 1) := by decide +kernel
theorem zf85_104 : fetch 85 104 = some (.goto 47, 3) := by decide +kernel
theorem zf85_98 : fetch 85 98 = some (.lconst 1, 1) := by decide +kernel
theorem zf85_99 : fetch 85 99 = some (.goto 4, 3) := by decide +kernel
theorem zf85_107 : fetch 85 107 = some (.iload_n 1, 1) := by decide +kernel
theorem zf85_108 : fetch 85 108 = some (.iload_n 2, 1) := by decide +kernel
theorem zf85_109 : fetch 85 109 = some (.if_icmp .ge 7, 3) := by decide +kernel
theorem zf85_116 : fetch 85 116 = some (.lconst 0, 1) := by decide +kernel
theorem zf85_117 : fetch 85 117 = some (.lstore_n 3, 1) := by decide +kernel
theorem zf85_118 : fetch 85 118 = some (.goto 33, 3) := by decide +kernel
theorem zf85_112 : fetch 85 112 = some (.lconst 1, 1) := by decide +kernel
theorem zf85_113 : fetch 85 113 = some (.goto 4, 3) := by decide +kernel
theorem zf85_121 : fetch 85 121 = some (.iload_n 1, 1) := by decide +kernel
theorem zf85_122 : fetch 85 122 = some (.iload_n 2, 1) := by decide +kernel
theorem zf85_123 : fetch 85 123 = some (.if_icmp .le 7, 3) := by decide +kernel
theorem zf85_130 : fetch 85 130 = some (.lconst 0, 1) := by decide +kernel
theorem zf85_131 : fetch 85 131 = some (.lstore_n 3, 1) := by decide +kernel
theorem zf85_132 : fetch 85 132 = some (.goto 19, 3) := by decide +kernel
theorem zf85_126 : fetch 85 126 = some (.lconst 1, 1) := by decide +kernel
theorem zf85_127 : fetch 85 127 = some (.goto 4, 3) := by decide +kernel
theorem zf85_135 : fetch 85 135 = some (.iload_n 1, 1) := by decide +kernel
theorem zf85_136 : fetch 85 136 = some (.iload_n 2, 1) := by decide +kernel
theorem zf85_137 : fetch 85 137 = some (.iand, 1) := by decide +kernel
theorem zf85_138 : fetch 85 138 = some (.i2l, 1) := by decide +kernel
theorem zf85_139 : fetch 85 139 = some (.lstore_n 3, 1) := by decide +kernel
theorem zf85_140 : fetch 85 140 = some (.goto 11, 3) := by decide +kernel
theorem zf85_143 : fetch 85 143 = some (.iload_n 1, 1) := by decide +kernel
theorem zf85_144 : fetch 85 144 = some (.iload_n 2, 1) := by decide +kernel
theorem zf85_145 : fetch 85 145 = some (.ior, 1) := by decide +kernel
theorem zf85_146 : fetch 85 146 = some (.i2l, 1) := by decide +kernel
theorem zf85_147 : fetch 85 147 = some (.lstore_n 3, 1) := by decide +kernel
theorem zf85_148 : fetch 85 148 = some (.goto 3, 3) := by decide +kernel
theorem zf129_0 : fetch 129 0 = some (.aload_n 0, 1) := by decide +kernel
theorem zf129_1 : fetch 129 1 = some (.getfield 11, 3) := by decide +kernel
theorem zf129_4 : fetch 129 4 = some (.iload_n 1, 1) := by decide +kernel
theorem zf129_5 : fetch 129 5 = some (.iaload, 1) := by decide +kernel
theorem zf129_6 : fetch 129 6 = some (.iconst (-1), 1) := by decide +kernel
theorem zf129_7 : fetch 129 7 = some (.if_icmp .eq 34, 3) := by decide +kernel
theorem zf129_41 : fetch 129 41 = some (.iconst 1, 1) := by decide +kernel
theorem zf129_42 : fetch 129 42 = some (.goto 4, 3) := by decide +kernel
theorem zf129_10 : fetch 129 10 = some (.iload_n 3, 1) := by decide +kernel
theorem zf129_11 : fetch 129 11 = some (.aload_n 0, 1) := by decide +kernel
theorem zf129_12 : fetch 129 12 = some (.getfield 17, 3) := by decide +kernel
theorem zf129_15 : fetch 129 15 = some (.iload_n 1, 1) := by decide +kernel
theorem zf129_16 : fetch 129 16 = some (.iaload, 1) := by decide +kernel
theorem zf129_17 : fetch 129 17 = some (.if_icmp .lt 24, 3) := by decide +kernel
theorem zf129_20 : fetch 129 20 = some (.iload_n 3, 1) := by decide +kernel
theorem zf129_21 : fetch 129 21 = some (.aload_n 0, 1) := by decide +kernel
theorem zf129_22 : fetch 129 22 = some (.getfield 17, 3) := by decide +kernel
theorem zf129_25 : fetch 129 25 = some (.iload_n 1, 1) := by decide +kernel
theorem zf129_26 : fetch 129 26 = some (.iaload, 1) := by decide +kernel
theorem zf129_27 : fetch 129 27 = some (.if_icmp .ne 18, 3) := by decide +kernel
theorem zf129_45 : fetch 129 45 = some (.iconst 0, 1) := by decide +kernel
theorem zf129_30 : fetch 129 30 = some (.iload 4, 2) := by decide +kernel
theorem zf129_32 : fetch 129 32 = some (.aload_n 0, 1) := by decide +kernel
theorem zf129_33 : fetch 129 33 = some (.getfield 20, 3) := by decide +kernel
theorem zf129_36 : fetch 129 36 = some (.iload_n 1, 1) := by decide +kernel
theorem zf129_37 : fetch 129 37 = some (.iaload, 1) := by decide +kernel
theorem zf129_38 : fetch 129 38 = some (.if_icmp .ge 7, 3) := by decide +kernel
theorem zf134_43 : fetch 134 43 = some (.istore 9, 2) := by decide +kernel
theorem zf134_45 : fetch 134 45 = some (.iload_n 3, 1) := by decide +kernel
theorem zf134_46 : fetch 134 46 = some (.iconst 1, 1) := by decide +kernel
theorem zf134_47 : fetch 134 47 = some (.if_icmp .gt 19, 3) := by decide +kernel
theorem zf134_66 : fetch 134 66 = some (.aload_n 0, 1) := by decide +kernel
theorem zf134_67 : fetch 134 67 = some (.getfield 26, 3) := by decide +kernel
theorem zf134_70 : fetch 134 70 = some (.iload 6, 2) := by decide +kernel
theorem zf134_72 : fetch 134 72 = some (.iload 7, 2) := by decide +kernel
theorem zf134_74 : fetch 134 74 = some (.iastore, 1) := by decide +kernel
theorem zf134_75 : fetch 134 75 = some (.aload_n 0, 1) := by decide +kernel
theorem zf134_76 : fetch 134 76 = some (.aload_n 1, 1) := by decide +kernel
theorem zf134_77 : fetch 134 77 = some (.iload_n 3, 1) := by decide +kernel
theorem zf134_78 : fetch 134 78 = some (.iconst 1, 1) := by decide +kernel
theorem zf134_79 : fetch 134 79 = some (.isub, 1) := by decide +kernel
theorem zf134_80 : fetch 134 80 = some (.iload 9, 2) := by decide +kernel
theorem zf134_82 : fetch 134 82 = some (.iload 5, 2) := by decide +kernel
theorem zf134_84 : fetch 134 84 = some (.invokevirtual 68, 3) := by decide +kernel
theorem zf134_87 : fetch 134 87 = some (.iconst (-1), 1) := by decide +kernel
theorem zf134_88 : fetch 134 88 = some (.if_icmp .eq 7, 3) := by decide +kernel
theorem zf134_95 : fetch 134 95 = some (.iconst 0, 1) := by decide +kernel
theorem zf134_96 : fetch 134 96 = some (.istore 10, 2) := by decide +kernel
theorem zf134_98 : fetch 134 98 = some (.aload_n 0, 1) := by decide +kernel
theorem zf134_99 : fetch 134 99 = some (.getfield 26, 3) := by decide +kernel
theorem zf134_102 : fetch 134 102 = some (.iload 6, 2) := by decide +kernel
theorem zf134_104 : fetch 134 104 = some (.iload 8, 2) := by decide +kernel
theorem zf134_106 : fetch 134 106 = some (.iastore, 1) := by decide +kernel
theorem zf134_107 : fetch 134 107 = some (.iload 10, 2) := by decide +kernel
theorem zf134_109 : fetch 134 109 = some (.ireturn, 1) := by decide +kernel
theorem zf134_91 : fetch 134 91 = some (.iconst 1, 1) := by decide +kernel
theorem zf134_92 : fetch 134 92 = some (.goto 4, 3) := by decide +kernel
theorem zf134_50 : fetch 134 50 = some (.iload 9, 2) := by decide +kernel
theorem zf134_52 : fetch 134 52 = some (.iload 5, 2) := by decide +kernel
theorem zf134_54 : fetch 134 54 = some (.ishr, 1) := by decide +kernel
theorem zf134_55 : fetch 134 55 = some (.iconst 1, 1) := by decide +kernel
theorem zf134_56 : fetch 134 56 = some (.iand, 1) := by decide +kernel
theorem zf134_57 : fetch 134 57 = some (.ifCond .eq 7, 3) := by decide +kernel
theorem zf134_64 : fetch 134 64 = some (.iconst 0, 1) := by decide +kernel
theorem zf134_65 : fetch 134 65 = some (.ireturn, 1) := by decide +kernel
theorem zf134_60 : fetch 134 60 = some (.iconst 1, 1) := by decide +kernel
theorem zf134_61 : fetch 134 61 = some (.goto 4, 3) := by decide +kernel
theorem zf29_0 : fetch 29 0 = some (.getstatic 38, 3) := by decide +kernel
theorem zf29_3 : fetch 29 3 = some (.ifCond .eq 10, 3) := by decide +kernel
theorem zf29_6 : fetch 29 6 = some (.aload_n 0, 1) := by decide +kernel
theorem zf29_7 : fetch 29 7 = some (.getfield 15, 3) := by decide +kernel
theorem zf29_10 : fetch 29 10 = some (.goto 4, 3) := by decide +kernel
theorem zf29_14 : fetch 29 14 = some (.ireturn, 1) := by decide +kernel
theorem zf12_0 : fetch 12 0 = some (.getstatic 38, 3) := by decide +kernel
theorem zf12_3 : fetch 12 3 = some (.ifCond .eq 14, 3) := by decide +kernel
theorem zf12_6 : fetch 12 6 = some (.aload_n 0, 1) := by decide +kernel
theorem zf12_7 : fetch 12 7 = some (.getfield 15, 3) := by decide +kernel
theorem zf12_10 : fetch 12 10 = some (.ifCond .ne 7, 3) := by decide +kernel
theorem zf12_13 : fetch 12 13 = some (.iconst 1, 1) := by decide +kernel
theorem zf12_14 : fetch 12 14 = some (.goto 4, 3) := by decide +kernel
theorem zf12_18 : fetch 12 18 = some (.ireturn, 1) := by decide +kernel
theorem zf13_0 : fetch 13 0 = some (.iload_n 1, 1) := by decide +kernel
theorem zf13_1 : fetch 13 1 = some (.aload_n 0, 1) := by decide +kernel
theorem zf13_2 : fetch 13 2 = some (.arraylength, 1) := by decide +kernel
theorem zf13_3 : fetch 13 3 = some (.invokestatic 9, 3) := by decide +kernel
theorem zf13_6 : fetch 13 6 = some (.aload_n 0, 1) := by decide +kernel
theorem zf13_7 : fetch 13 7 = some (.iload_n 1, 1) := by decide +kernel
theorem zf13_8 : fetch 13 8 = some (.baload, 1) := by decide +kernel
theorem zf13_9 : fetch 13 9 = some (.sipush 255, 3) := by decide +kernel
theorem zf13_12 : fetch 13 12 = some (.iand, 1) := by decide +kernel
theorem zf13_13 : fetch 13 13 = some (.i2c, 1) := by decide +kernel
theorem zf13_14 : fetch 13 14 = some (.ireturn, 1) := by decide +kernel
theorem zf209_0 : fetch 209 0 = some (.aload_n 0, 1) := by decide +kernel
theorem zf209_1 : fetch 209 1 = some (.getfield 131, 3) := by decide +kernel
theorem zf209_4 : fetch 209 4 = some (.bipush 6, 2) := by decide +kernel
theorem zf209_6 : fetch 209 6 = some (.if_icmp .ne 8, 3) := by decide +kernel
theorem zf209_14 : fetch 209 14 = some (.aload_n 0, 1) := by decide +kernel
theorem zf209_15 : fetch 209 15 = some (.dup, 1) := by decide +kernel
theorem zf209_16 : fetch 209 16 = some (.getfield 131, 3) := by decide +kernel
theorem zf209_19 : fetch 209 19 = some (.iconst 1, 1) := by decide +kernel
theorem zf209_20 : fetch 209 20 = some (.iadd, 1) := by decide +kernel
theorem zf209_21 : fetch 209 21 = some (.putfield 131, 3) := by decide +kernel
theorem zf209_24 : fetch 209 24 = some (.aload_n 0, 1) := by decide +kernel
theorem zf209_25 : fetch 209 25 = some (.dup, 1) := by decide +kernel
theorem zf209_26 : fetch 209 26 = some (.getfield 119, 3) := by decide +kernel
theorem zf209_29 : fetch 209 29 = some (.iconst 1, 1) := by decide +kernel
theorem zf209_30 : fetch 209 30 = some (.iadd, 1) := by decide +kernel
theorem zf209_31 : fetch 209 31 = some (.putfield 119, 3) := by decide +kernel
theorem zf209_34 : fetch 209 34 = some (.iconst 1, 1) := by decide +kernel
theorem zf209_35 : fetch 209 35 = some (.ireturn, 1) := by decide +kernel
theorem zf209_9 : fetch 209 9 = some (.aload_n 0, 1) := by decide +kernel
theorem zf209_10 : fetch 209 10 = some (.invokevirtual 134, 3) := by decide +kernel
theorem zf209_13 : fetch 209 13 = some (.ireturn, 1) := by decide +kernel
theorem zf205_12 : fetch 205 12 = some (.istore_n 3, 1) := by decide +kernel
theorem zf205_13 : fetch 205 13 = some (.aload_n 0, 1) := by decide +kernel
theorem zf205_14 : fetch 205 14 = some (.getfield 128, 3) := by decide +kernel
theorem zf205_17 : fetch 205 17 = some (.iconst (-1), 1) := by decide +kernel
theorem zf205_18 : fetch 205 18 = some (.if_icmp .eq 5, 3) := by decide +kernel
theorem zf205_23 : fetch 205 23 = some (.aload_n 0, 1) := by decide +kernel
theorem zf205_24 : fetch 205 24 = some (.invokevirtual 138, 3) := by decide +kernel
theorem zf205_27 : fetch 205 27 = some (.istore 4, 2) := by decide +kernel
theorem zf205_29 : fetch 205 29 = some (.iload 4, 2) := by decide +kernel
theorem zf205_31 : fetch 205 31 = some (.invokestatic 181, 3) := by decide +kernel
theorem zf205_34 : fetch 205 34 = some (.ifCond .ne 8, 3) := by decide +kernel
theorem zf205_42 : fetch 205 42 = some (.aload_n 0, 1) := by decide +kernel
theorem zf205_43 : fetch 205 43 = some (.dup, 1) := by decide +kernel
theorem zf205_44 : fetch 205 44 = some (.getfield 119, 3) := by decide +kernel
theorem zf205_47 : fetch 205 47 = some (.iconst 1, 1) := by decide +kernel
theorem zf205_48 : fetch 205 48 = some (.iadd, 1) := by decide +kernel
theorem zf205_49 : fetch 205 49 = some (.putfield 119, 3) := by decide +kernel
theorem zf205_52 : fetch 205 52 = some (.aload_n 0, 1) := by decide +kernel
theorem zf205_53 : fetch 205 53 = some (.invokevirtual 161, 3) := by decide +kernel
theorem zf205_56 : fetch 205 56 = some (.istore 5, 2) := by decide +kernel
theorem zf205_58 : fetch 205 58 = some (.iload 4, 2) := by decide +kernel
theorem zf205_60 : fetch 205 60 = some (.bipush 61, 2) := by decide +kernel
theorem zf205_62 : fetch 205 62 = some (.if_icmp .ne 17, 3) := by decide +kernel
theorem zf205_79 : fetch 205 79 = some (.iload 4, 2) := by decide +kernel
theorem zf205_81 : fetch 205 81 = some (.bipush 60, 2) := by decide +kernel
theorem zf205_83 : fetch 205 83 = some (.if_icmp .ne 17, 3) := by decide +kernel
theorem zf205_100 : fetch 205 100 = some (.iload_n 3, 1) := by decide +kernel
theorem zf205_101 : fetch 205 101 = some (.iload 5, 2) := by decide +kernel
theorem zf205_103 : fetch 205 103 = some (.if_icmp .le 7, 3) := by decide +kernel
theorem zf205_110 : fetch 205 110 = some (.iconst 0, 1) := by decide +kernel
theorem zf205_111 : fetch 205 111 = some (.ireturn, 1) := by decide +kernel
theorem zf205_106 : fetch 205 106 = some (.iconst 1, 1) := by decide +kernel
theorem zf205_107 : fetch 205 107 = some (.goto 4, 3) := by decide +kernel
theorem zf205_86 : fetch 205 86 = some (.iload_n 3, 1) := by decide +kernel
theorem zf205_87 : fetch 205 87 = some (.iload 5, 2) := by decide +kernel
theorem zf205_89 : fetch 205 89 = some (.if_icmp .ge 7, 3) := by decide +kernel
theorem zf205_96 : fetch 205 96 = some (.iconst 0, 1) := by decide +kernel
theorem zf205_97 : fetch 205 97 = some (.goto 14, 3) := by decide +kernel
theorem zf205_92 : fetch 205 92 = some (.iconst 1, 1) := by decide +kernel
theorem zf205_93 : fetch 205 93 = some (.goto 18, 3) := by decide +kernel
theorem zf205_65 : fetch 205 65 = some (.iload_n 3, 1) := by decide +kernel
theorem zf205_66 : fetch 205 66 = some (.iload 5, 2) := by decide +kernel
theorem zf205_68 : fetch 205 68 = some (.if_icmp .ne 7, 3) := by decide +kernel
theorem zf205_75 : fetch 205 75 = some (.iconst 0, 1) := by decide +kernel
theorem zf205_76 : fetch 205 76 = some (.goto 35, 3) := by decide +kernel
theorem zf205_71 : fetch 205 71 = some (.iconst 1, 1) := by decide +kernel
theorem zf205_72 : fetch 205 72 = some (.goto 39, 3) := by decide +kernel
theorem zf205_37 : fetch 205 37 = some (.aload_n 0, 1) := by decide +kernel
theorem zf205_38 : fetch 205 38 = some (.invokevirtual 134, 3) := by decide +kernel
theorem zf205_41 : fetch 205 41 = some (.ireturn, 1) := by decide +kernel
theorem zf205_21 : fetch 205 21 = some (.iconst 0, 1) := by decide +kernel
theorem zf205_22 : fetch 205 22 = some (.ireturn, 1) := by decide +kernel
theorem zf208_90 : fetch 208 90 = some (.aload_n 0, 1) := by decide +kernel
theorem zf208_91 : fetch 208 91 = some (.invokevirtual 168, 3) := by decide +kernel
theorem zf208_94 : fetch 208 94 = some (.ifCond .eq 62, 3) := by decide +kernel
theorem zf208_156 : fetch 208 156 = some (.iload_n 2, 1) := by decide +kernel
theorem zf208_157 : fetch 208 157 = some (.ireturn, 1) := by decide +kernel
theorem zf208_97 : fetch 208 97 = some (.aload_n 0, 1) := by decide +kernel
theorem zf208_98 : fetch 208 98 = some (.getfield 128, 3) := by decide +kernel
theorem zf208_101 : fetch 208 101 = some (.iconst (-1), 1) := by decide +kernel
theorem zf208_102 : fetch 208 102 = some (.if_icmp .ne 54, 3) := by decide +kernel
theorem zf208_105 : fetch 208 105 = some (.iload_n 3, 1) := by decide +kernel
theorem zf208_106 : fetch 208 106 = some (.iconst 4, 1) := by decide +kernel
theorem zf208_107 : fetch 208 107 = some (.if_icmp .ne 10, 3) := by decide +kernel
theorem zf208_117 : fetch 208 117 = some (.bipush 10, 2) := by decide +kernel
theorem zf208_119 : fetch 208 119 = some (.iload_n 2, 1) := by decide +kernel
theorem zf208_120 : fetch 208 120 = some (.imul, 1) := by decide +kernel
theorem zf208_121 : fetch 208 121 = some (.aload_n 0, 1) := by decide +kernel
theorem zf208_122 : fetch 208 122 = some (.getfield 23, 3) := by decide +kernel
theorem zf208_125 : fetch 208 125 = some (.aload_n 0, 1) := by decide +kernel
theorem zf208_126 : fetch 208 126 = some (.getfield 125, 3) := by decide +kernel
theorem zf208_129 : fetch 208 129 = some (.aload_n 0, 1) := by decide +kernel
theorem zf208_130 : fetch 208 130 = some (.getfield 119, 3) := by decide +kernel
theorem zf208_133 : fetch 208 133 = some (.iadd, 1) := by decide +kernel
theorem zf208_134 : fetch 208 134 = some (.baload, 1) := by decide +kernel
theorem zf208_135 : fetch 208 135 = some (.iadd, 1) := by decide +kernel
theorem zf208_136 : fetch 208 136 = some (.bipush 48, 2) := by decide +kernel
theorem zf208_138 : fetch 208 138 = some (.isub, 1) := by decide +kernel
theorem zf208_139 : fetch 208 139 = some (.istore_n 2, 1) := by decide +kernel
theorem zf208_140 : fetch 208 140 = some (.aload_n 0, 1) := by decide +kernel
theorem zf208_141 : fetch 208 141 = some (.dup, 1) := by decide +kernel
theorem zf208_142 : fetch 208 142 = some (.getfield 119, 3) := by decide +kernel
theorem zf208_145 : fetch 208 145 = some (.iconst 1, 1) := by decide +kernel
theorem zf208_146 : fetch 208 146 = some (.iadd, 1) := by decide +kernel
theorem zf208_147 : fetch 208 147 = some (.putfield 119, 3) := by decide +kernel
theorem zf208_150 : fetch 208 150 = some (.iinc 3 1, 3) := by decide +kernel
theorem zf208_153 : fetch 208 153 = some (.goto (-63), 3) := by decide +kernel
theorem zf208_110 : fetch 208 110 = some (.aload_n 0, 1) := by decide +kernel
theorem zf208_111 : fetch 208 111 = some (.invokevirtual 134, 3) := by decide +kernel
theorem zf208_114 : fetch 208 114 = some (.pop, 1) := by decide +kernel
theorem zf208_115 : fetch 208 115 = some (.iconst 0, 1) := by decide +kernel
theorem zf208_116 : fetch 208 116 = some (.ireturn, 1) := by decide +kernel
theorem zf207_45 : fetch 207 45 = some (.istore_n 2, 1) := by decide +kernel
theorem zf207_46 : fetch 207 46 = some (.aload_n 0, 1) := by decide +kernel
theorem zf207_47 : fetch 207 47 = some (.dup, 1) := by decide +kernel
theorem zf207_48 : fetch 207 48 = some (.getfield 119, 3) := by decide +kernel
theorem zf207_51 : fetch 207 51 = some (.iconst 1, 1) := by decide +kernel
theorem zf207_52 : fetch 207 52 = some (.iadd, 1) := by decide +kernel
theorem zf207_53 : fetch 207 53 = some (.putfield 119, 3) := by decide +kernel
theorem zf207_56 : fetch 207 56 = some (.aload_n 0, 1) := by decide +kernel
theorem zf207_57 : fetch 207 57 = some (.invokevirtual 171, 3) := by decide +kernel
theorem zf207_60 : fetch 207 60 = some (.i2l, 1) := by decide +kernel
theorem zf207_61 : fetch 207 61 = some (.lstore_n 3, 1) := by decide +kernel
theorem zf207_62 : fetch 207 62 = some (.iload_n 2, 1) := by decide +kernel
theorem zf207_63 : fetch 207 63 = some (.ifCond .eq 10, 3) := by decide +kernel
theorem zf207_73 : fetch 207 73 = some (.lload_n 3, 1) := by decide +kernel
theorem zf207_74 : fetch 207 74 = some (.lconst 0, 1) := by decide +kernel
theorem zf207_75 : fetch 207 75 = some (.lcmp, 1) := by decide +kernel
theorem zf207_76 : fetch 207 76 = some (.ifCond .ne 7, 3) := by decide +kernel
theorem zf207_83 : fetch 207 83 = some (.iload_n 1, 1) := by decide +kernel
theorem zf207_84 : fetch 207 84 = some (.i2l, 1) := by decide +kernel
theorem zf207_85 : fetch 207 85 = some (.lload_n 3, 1) := by decide +kernel
theorem zf207_86 : fetch 207 86 = some (.ldiv, 1) := by decide +kernel
theorem zf207_87 : fetch 207 87 = some (.invokestatic 174, 3) := by decide +kernel
theorem zf207_90 : fetch 207 90 = some (.istore_n 1, 1) := by decide +kernel
theorem zf207_91 : fetch 207 91 = some (.goto (-86), 3) := by decide +kernel
theorem zf207_79 : fetch 207 79 = some (.lconst 0, 1) := by decide +kernel
theorem zf207_80 : fetch 207 80 = some (.goto 7, 3) := by decide +kernel
theorem zf207_66 : fetch 207 66 = some (.iload_n 1, 1) := by decide +kernel
theorem zf207_67 : fetch 207 67 = some (.i2l, 1) := by decide +kernel
theorem zf207_68 : fetch 207 68 = some (.lload_n 3, 1) := by decide +kernel
theorem zf207_69 : fetch 207 69 = some (.lmul, 1) := by decide +kernel
theorem zf207_70 : fetch 207 70 = some (.goto 17, 3) := by decide +kernel
theorem zf210_0 : fetch 210 0 = some (.ldc2_w 141, 3) := by decide +kernel
theorem zf210_3 : fetch 210 3 = some (.ldc2_w 143, 3) := by decide +kernel
theorem zf210_6 : fetch 210 6 = some (.lload_n 0, 1) := by decide +kernel
theorem zf210_7 : fetch 210 7 = some (.invokestatic 145, 3) := by decide +kernel
theorem zf210_10 : fetch 210 10 = some (.invokestatic 151, 3) := by decide +kernel
theorem zf210_13 : fetch 210 13 = some (.l2i, 1) := by decide +kernel
theorem zf210_14 : fetch 210 14 = some (.ireturn, 1) := by decide +kernel
theorem zf198_52 : fetch 198 52 = some (.iload_n 1, 1) := by decide +kernel
theorem zf198_53 : fetch 198 53 = some (.aload_n 0, 1) := by decide +kernel
theorem zf198_54 : fetch 198 54 = some (.getfield 248, 3) := by decide +kernel
theorem zf198_57 : fetch 198 57 = some (.if_icmp .ge 28, 3) := by decide +kernel
theorem zf198_85 : fetch 198 85 = some (.aload_n 0, 1) := by decide +kernel
theorem zf198_86 : fetch 198 86 = some (.getfield 245, 3) := by decide +kernel
theorem zf198_89 : fetch 198 89 = some (.iconst 1, 1) := by decide +kernel
theorem zf198_90 : fetch 198 90 = some (.if_icmp .le 14, 3) := by decide +kernel
theorem zf198_104 : fetch 198 104 = some (.iconst 0, 1) := by decide +kernel
theorem zf198_105 : fetch 198 105 = some (.ireturn, 1) := by decide +kernel
theorem zf198_93 : fetch 198 93 = some (.aload_n 0, 1) := by decide +kernel
theorem zf198_94 : fetch 198 94 = some (.getfield 248, 3) := by decide +kernel
theorem zf198_97 : fetch 198 97 = some (.ifCond .le 7, 3) := by decide +kernel
theorem zf198_100 : fetch 198 100 = some (.iconst 1, 1) := by decide +kernel
theorem zf198_101 : fetch 198 101 = some (.goto 4, 3) := by decide +kernel
theorem zf198_60 : fetch 198 60 = some (.aload_n 0, 1) := by decide +kernel
theorem zf198_61 : fetch 198 61 = some (.getfield 52, 3) := by decide +kernel
theorem zf198_64 : fetch 198 64 = some (.iconst 3, 1) := by decide +kernel
theorem zf198_65 : fetch 198 65 = some (.iload_n 1, 1) := by decide +kernel
theorem zf198_66 : fetch 198 66 = some (.imul, 1) := by decide +kernel
theorem zf198_67 : fetch 198 67 = some (.iconst 2, 1) := by decide +kernel
theorem zf198_68 : fetch 198 68 = some (.iadd, 1) := by decide +kernel
theorem zf198_69 : fetch 198 69 = some (.iaload, 1) := by decide +kernel
theorem zf198_70 : fetch 198 70 = some (.aload_n 0, 1) := by decide +kernel
theorem zf198_71 : fetch 198 71 = some (.getfield 245, 3) := by decide +kernel
theorem zf198_74 : fetch 198 74 = some (.if_icmp .lt 5, 3) := by decide +kernel
theorem zf198_79 : fetch 198 79 = some (.iinc 1 1, 3) := by decide +kernel
theorem zf198_82 : fetch 198 82 = some (.goto (-30), 3) := by decide +kernel
theorem zf198_77 : fetch 198 77 = some (.iconst 0, 1) := by decide +kernel
theorem zf198_78 : fetch 198 78 = some (.ireturn, 1) := by decide +kernel
theorem zf198_12 : fetch 198 12 = some (.iload_n 2, 1) := by decide +kernel
theorem zf198_13 : fetch 198 13 = some (.iload_n 1, 1) := by decide +kernel
theorem zf198_14 : fetch 198 14 = some (.if_icmp .ge 30, 3) := by decide +kernel
theorem zf198_44 : fetch 198 44 = some (.iinc 1 1, 3) := by decide +kernel
theorem zf198_47 : fetch 198 47 = some (.goto (-45), 3) := by decide +kernel
theorem zf198_17 : fetch 198 17 = some (.aload_n 0, 1) := by decide +kernel
theorem zf198_18 : fetch 198 18 = some (.getfield 46, 3) := by decide +kernel
theorem zf198_21 : fetch 198 21 = some (.iconst 3, 1) := by decide +kernel
theorem zf198_22 : fetch 198 22 = some (.iload_n 1, 1) := by decide +kernel
theorem zf198_23 : fetch 198 23 = some (.imul, 1) := by decide +kernel
theorem zf198_24 : fetch 198 24 = some (.iaload, 1) := by decide +kernel
theorem zf198_25 : fetch 198 25 = some (.aload_n 0, 1) := by decide +kernel
theorem zf198_26 : fetch 198 26 = some (.getfield 46, 3) := by decide +kernel
theorem zf198_29 : fetch 198 29 = some (.iconst 3, 1) := by decide +kernel
theorem zf198_30 : fetch 198 30 = some (.iload_n 2, 1) := by decide +kernel
theorem zf198_31 : fetch 198 31 = some (.imul, 1) := by decide +kernel
theorem zf198_32 : fetch 198 32 = some (.iaload, 1) := by decide +kernel
theorem zf198_33 : fetch 198 33 = some (.if_icmp .ne 5, 3) := by decide +kernel
theorem zf198_38 : fetch 198 38 = some (.iinc 2 1, 3) := by decide +kernel
theorem zf198_41 : fetch 198 41 = some (.goto (-29), 3) := by decide +kernel
theorem zf198_36 : fetch 198 36 = some (.iconst 0, 1) := by decide +kernel
theorem zf198_37 : fetch 198 37 = some (.ireturn, 1) := by decide +kernel
theorem zf190_3 : fetch 190 3 = some (.iload 5, 2) := by decide +kernel
theorem zf190_5 : fetch 190 5 = some (.aload 4, 2) := by decide +kernel
theorem zf190_7 : fetch 190 7 = some (.invokevirtual 99, 3) := by decide +kernel
theorem zf190_10 : fetch 190 10 = some (.if_icmp .ge 21, 3) := by decide +kernel
theorem zf190_31 : fetch 190 31 = some (.iconst 0, 1) := by decide +kernel
theorem zf190_32 : fetch 190 32 = some (.istore 5, 2) := by decide +kernel
theorem zf190_34 : fetch 190 34 = some (.aload 4, 2) := by decide +kernel
theorem zf190_36 : fetch 190 36 = some (.aload_n 0, 1) := by decide +kernel
theorem zf190_37 : fetch 190 37 = some (.invokevirtual 138, 3) := by decide +kernel
theorem zf190_40 : fetch 190 40 = some (.invokestatic 225, 3) := by decide +kernel
theorem zf190_43 : fetch 190 43 = some (.istore 6, 2) := by decide +kernel
theorem zf190_13 : fetch 190 13 = some (.aload_n 2, 1) := by decide +kernel
theorem zf190_14 : fetch 190 14 = some (.iload_n 3, 1) := by decide +kernel
theorem zf190_15 : fetch 190 15 = some (.iload 5, 2) := by decide +kernel
theorem zf190_17 : fetch 190 17 = some (.iadd, 1) := by decide +kernel
theorem zf190_18 : fetch 190 18 = some (.iload_n 1, 1) := by decide +kernel
theorem zf190_19 : fetch 190 19 = some (.iload 5, 2) := by decide +kernel
theorem zf190_21 : fetch 190 21 = some (.invokestatic 221, 3) := by decide +kernel
theorem zf190_24 : fetch 190 24 = some (.iastore, 1) := by decide +kernel
theorem zf190_25 : fetch 190 25 = some (.iinc 5 1, 3) := by decide +kernel
theorem zf190_28 : fetch 190 28 = some (.goto (-25), 3) := by decide +kernel
theorem zf216_356 : fetch 216 356 = some (.iload_n 3, 1) := by decide +kernel
theorem zf216_357 : fetch 216 357 = some (.aload_n 0, 1) := by decide +kernel
theorem zf216_358 : fetch 216 358 = some (.getfield 297, 3) := by decide +kernel
theorem zf216_361 : fetch 216 361 = some (.if_icmp .ge 28, 3) := by decide +kernel
theorem zf216_389 : fetch 216 389 = some (.aload_n 0, 1) := by decide +kernel
theorem zf216_390 : fetch 216 390 = some (.getfield 61, 3) := by decide +kernel
theorem zf216_393 : fetch 216 393 = some (.bipush 31, 2) := by decide +kernel
theorem zf216_395 : fetch 216 395 = some (.aload_n 0, 1) := by decide +kernel
theorem zf216_396 : fetch 216 396 = some (.getfield 37, 3) := by decide +kernel
theorem zf216_399 : fetch 216 399 = some (.iconst 2, 1) := by decide +kernel
theorem zf216_400 : fetch 216 400 = some (.iaload, 1) := by decide +kernel
theorem zf216_401 : fetch 216 401 = some (.iastore, 1) := by decide +kernel
theorem zf216_402 : fetch 216 402 = some (.aload_n 0, 1) := by decide +kernel
theorem zf216_403 : fetch 216 403 = some (.getfield 61, 3) := by decide +kernel
theorem zf216_406 : fetch 216 406 = some (.bipush 32, 2) := by decide +kernel
theorem zf216_408 : fetch 216 408 = some (.aload_n 0, 1) := by decide +kernel
theorem zf216_409 : fetch 216 409 = some (.getfield 37, 3) := by decide +kernel
theorem zf216_412 : fetch 216 412 = some (.iconst 0, 1) := by decide +kernel
theorem zf216_413 : fetch 216 413 = some (.iaload, 1) := by decide +kernel
theorem zf216_414 : fetch 216 414 = some (.iastore, 1) := by decide +kernel
theorem zf216_415 : fetch 216 415 = some (.aload_n 0, 1) := by decide +kernel
theorem zf216_416 : fetch 216 416 = some (.getfield 61, 3) := by decide +kernel
theorem zf216_419 : fetch 216 419 = some (.bipush 33, 2) := by decide +kernel
theorem zf216_421 : fetch 216 421 = some (.aload_n 0, 1) := by decide +kernel
theorem zf216_422 : fetch 216 422 = some (.getfield 37, 3) := by decide +kernel
theorem zf216_425 : fetch 216 425 = some (.iconst 1, 1) := by decide +kernel
theorem zf216_426 : fetch 216 426 = some (.iaload, 1) := by decide +kernel
theorem zf216_427 : fetch 216 427 = some (.iastore, 1) := by decide +kernel
theorem zf216_428 : fetch 216 428 = some (.aload_n 0, 1) := by decide +kernel
theorem zf216_429 : fetch 216 429 = some (.iconst 0, 1) := by decide +kernel
theorem zf216_430 : fetch 216 430 = some (.putfield 303, 3) := by decide +kernel
theorem zf216_433 : fetch 216 433 = some (.aload_n 0, 1) := by decide +kernel
theorem zf216_434 : fetch 216 434 = some (.iconst 0, 1) := by decide +kernel
theorem zf216_435 : fetch 216 435 = some (.putfield 306, 3) := by decide +kernel
theorem zf216_438 : fetch 216 438 = some (.aload_n 0, 1) := by decide +kernel
theorem zf216_439 : fetch 216 439 = some (.iconst 0, 1) := by decide +kernel
theorem zf216_440 : fetch 216 440 = some (.putfield 309, 3) := by decide +kernel
theorem zf216_443 : fetch 216 443 = some (.aload_n 0, 1) := by decide +kernel
theorem zf216_444 : fetch 216 444 = some (.iconst 0, 1) := by decide +kernel
theorem zf216_445 : fetch 216 445 = some (.putfield 312, 3) := by decide +kernel
theorem zf216_448 : fetch 216 448 = some (.aload_n 0, 1) := by decide +kernel
theorem zf216_449 : fetch 216 449 = some (.getfield 294, 3) := by decide +kernel
theorem zf216_452 : fetch 216 452 = some (.ireturn, 1) := by decide +kernel
theorem zf216_364 : fetch 216 364 = some (.aload_n 0, 1) := by decide +kernel
theorem zf216_365 : fetch 216 365 = some (.getfield 61, 3) := by decide +kernel
theorem zf216_368 : fetch 216 368 = some (.iload_n 3, 1) := by decide +kernel
theorem zf216_369 : fetch 216 369 = some (.invokestatic 300, 3) := by decide +kernel
theorem zf216_372 : fetch 216 372 = some (.aload_n 0, 1) := by decide +kernel
theorem zf216_373 : fetch 216 373 = some (.getfield 49, 3) := by decide +kernel
theorem zf216_376 : fetch 216 376 = some (.iconst 3, 1) := by decide +kernel
theorem zf216_377 : fetch 216 377 = some (.iload_n 3, 1) := by decide +kernel
theorem zf216_378 : fetch 216 378 = some (.imul, 1) := by decide +kernel
theorem zf216_379 : fetch 216 379 = some (.iconst 2, 1) := by decide +kernel
theorem zf216_380 : fetch 216 380 = some (.iadd, 1) := by decide +kernel
theorem zf216_381 : fetch 216 381 = some (.iaload, 1) := by decide +kernel
theorem zf216_382 : fetch 216 382 = some (.iastore, 1) := by decide +kernel
theorem zf216_383 : fetch 216 383 = some (.iinc 3 1, 3) := by decide +kernel
theorem zf216_386 : fetch 216 386 = some (.goto (-30), 3) := by decide +kernel
theorem zf276_31 : fetch 276 31 = some (.iload 5, 2) := by decide +kernel
theorem zf276_33 : fetch 276 33 = some (.aload_n 0, 1) := by decide +kernel
theorem zf276_34 : fetch 276 34 = some (.getfield 294, 3) := by decide +kernel
theorem zf276_37 : fetch 276 37 = some (.if_icmp .ge 38, 3) := by decide +kernel
theorem zf276_75 : fetch 276 75 = some (.iinc 4 1, 3) := by decide +kernel
theorem zf276_78 : fetch 276 78 = some (.goto (-59), 3) := by decide +kernel
theorem zf276_40 : fetch 276 40 = some (.aload_n 0, 1) := by decide +kernel
theorem zf276_41 : fetch 276 41 = some (.aload_n 0, 1) := by decide +kernel
theorem zf276_42 : fetch 276 42 = some (.getfield 61, 3) := by decide +kernel
theorem zf276_45 : fetch 276 45 = some (.iload 4, 2) := by decide +kernel
theorem zf276_47 : fetch 276 47 = some (.invokevirtual 342, 3) := by decide +kernel
theorem zf276_50 : fetch 276 50 = some (.ifCond .eq 25, 3) := by decide +kernel
theorem zf276_53 : fetch 276 53 = some (.aload_n 0, 1) := by decide +kernel
theorem zf276_54 : fetch 276 54 = some (.iload 4, 2) := by decide +kernel
theorem zf276_56 : fetch 276 56 = some (.iload 5, 2) := by decide +kernel
theorem zf276_58 : fetch 276 58 = some (.iload_n 1, 1) := by decide +kernel
theorem zf276_59 : fetch 276 59 = some (.iload_n 2, 1) := by decide +kernel
theorem zf276_60 : fetch 276 60 = some (.iload_n 3, 1) := by decide +kernel
theorem zf276_61 : fetch 276 61 = some (.invokevirtual 474, 3) := by decide +kernel
theorem zf276_64 : fetch 276 64 = some (.ifCond .eq 5, 3) := by decide +kernel
theorem zf276_69 : fetch 276 69 = some (.iinc 5 1, 3) := by decide +kernel
theorem zf276_72 : fetch 276 72 = some (.goto (-41), 3) := by decide +kernel
theorem zf276_67 : fetch 276 67 = some (.iconst 1, 1) := by decide +kernel
theorem zf276_68 : fetch 276 68 = some (.ireturn, 1) := by decide +kernel
theorem zf10_2 : fetch 10 2 = some (.iload_n 3, 1) := by decide +kernel
theorem zf10_3 : fetch 10 3 = some (.iload_n 2, 1) := by decide +kernel
theorem zf10_4 : fetch 10 4 = some (.if_icmp .ge 21, 3) := by decide +kernel
theorem zf10_25 : fetch 10 25 = some (.iconst (-1), 1) := by decide +kernel
theorem zf10_26 : fetch 10 26 = some (.ireturn, 1) := by decide +kernel
theorem zf10_7 : fetch 10 7 = some (.ldc 93, 2) := by decide +kernel
theorem zf10_9 : fetch 10 9 = some (.iload_n 3, 1) := by decide +kernel
theorem zf10_10 : fetch 10 10 = some (.invokevirtual 95, 3) := by decide +kernel
theorem zf10_13 : fetch 10 13 = some (.iload_n 0, 1) := by decide +kernel
theorem zf10_14 : fetch 10 14 = some (.if_icmp .ne 5, 3) := by decide +kernel
theorem zf10_19 : fetch 10 19 = some (.iinc 3 1, 3) := by decide +kernel
theorem zf10_22 : fetch 10 22 = some (.goto (-20), 3) := by decide +kernel
theorem zf10_17 : fetch 10 17 = some (.iload_n 3, 1) := by decide +kernel
theorem zf10_18 : fetch 10 18 = some (.ireturn, 1) := by decide +kernel
theorem zf16_4 : fetch 16 4 = some (.iload_n 3, 1) := by decide +kernel
theorem zf16_5 : fetch 16 5 = some (.iload_n 1, 1) := by decide +kernel
theorem zf16_6 : fetch 16 6 = some (.if_icmp .gt 83, 3) := by decide +kernel
theorem zf16_89 : fetch 16 89 = some (.iload_n 3, 1) := by decide +kernel
theorem zf16_90 : fetch 16 90 = some (.ifCond .ne 7, 3) := by decide +kernel
theorem zf16_97 : fetch 16 97 = some (.iload_n 2, 1) := by decide +kernel
theorem zf16_98 : fetch 16 98 = some (.ireturn, 1) := by decide +kernel
theorem zf16_93 : fetch 16 93 = some (.iconst (-1), 1) := by decide +kernel
theorem zf16_94 : fetch 16 94 = some (.goto 4, 3) := by decide +kernel
theorem zf16_9 : fetch 16 9 = some (.aload_n 0, 1) := by decide +kernel
theorem zf16_10 : fetch 16 10 = some (.getfield 19, 3) := by decide +kernel
theorem zf16_13 : fetch 16 13 = some (.aload_n 0, 1) := by decide +kernel
theorem zf16_14 : fetch 16 14 = some (.getfield 15, 3) := by decide +kernel
theorem zf16_17 : fetch 16 17 = some (.if_icmp .ge 72, 3) := by decide +kernel
theorem zf16_20 : fetch 16 20 = some (.aload_n 0, 1) := by decide +kernel
theorem zf16_21 : fetch 16 21 = some (.getfield 11, 3) := by decide +kernel
theorem zf16_24 : fetch 16 24 = some (.aload_n 0, 1) := by decide +kernel
theorem zf16_25 : fetch 16 25 = some (.getfield 19, 3) := by decide +kernel
theorem zf16_28 : fetch 16 28 = some (.baload, 1) := by decide +kernel
theorem zf16_29 : fetch 16 29 = some (.bipush 48, 2) := by decide +kernel
theorem zf16_31 : fetch 16 31 = some (.if_icmp .lt 58, 3) := by decide +kernel
theorem zf16_34 : fetch 16 34 = some (.aload_n 0, 1) := by decide +kernel
theorem zf16_35 : fetch 16 35 = some (.getfield 11, 3) := by decide +kernel
theorem zf16_38 : fetch 16 38 = some (.aload_n 0, 1) := by decide +kernel
theorem zf16_39 : fetch 16 39 = some (.getfield 19, 3) := by decide +kernel
theorem zf16_42 : fetch 16 42 = some (.baload, 1) := by decide +kernel
theorem zf16_43 : fetch 16 43 = some (.bipush 57, 2) := by decide +kernel
theorem zf16_45 : fetch 16 45 = some (.if_icmp .gt 44, 3) := by decide +kernel
theorem zf16_48 : fetch 16 48 = some (.iload_n 3, 1) := by decide +kernel
theorem zf16_49 : fetch 16 49 = some (.iload_n 1, 1) := by decide +kernel
theorem zf16_50 : fetch 16 50 = some (.if_icmp .ne 5, 3) := by decide +kernel
theorem zf16_55 : fetch 16 55 = some (.iload_n 2, 1) := by decide +kernel
theorem zf16_56 : fetch 16 56 = some (.bipush 10, 2) := by decide +kernel
theorem zf16_58 : fetch 16 58 = some (.imul, 1) := by decide +kernel
theorem zf16_59 : fetch 16 59 = some (.aload_n 0, 1) := by decide +kernel
theorem zf16_60 : fetch 16 60 = some (.getfield 11, 3) := by decide +kernel
theorem zf16_63 : fetch 16 63 = some (.aload_n 0, 1) := by decide +kernel
theorem zf16_64 : fetch 16 64 = some (.getfield 19, 3) := by decide +kernel
theorem zf16_67 : fetch 16 67 = some (.baload, 1) := by decide +kernel
theorem zf16_68 : fetch 16 68 = some (.iadd, 1) := by decide +kernel
theorem zf16_69 : fetch 16 69 = some (.bipush 48, 2) := by decide +kernel
theorem zf16_71 : fetch 16 71 = some (.isub, 1) := by decide +kernel
theorem zf16_72 : fetch 16 72 = some (.istore_n 2, 1) := by decide +kernel
theorem zf16_73 : fetch 16 73 = some (.aload_n 0, 1) := by decide +kernel
theorem zf16_74 : fetch 16 74 = some (.dup, 1) := by decide +kernel
theorem zf16_75 : fetch 16 75 = some (.getfield 19, 3) := by decide +kernel
theorem zf16_78 : fetch 16 78 = some (.iconst 1, 1) := by decide +kernel
theorem zf16_79 : fetch 16 79 = some (.iadd, 1) := by decide +kernel
theorem zf16_80 : fetch 16 80 = some (.putfield 19, 3) := by decide +kernel
theorem zf16_83 : fetch 16 83 = some (.iinc 3 1, 3) := by decide +kernel
theorem zf16_86 : fetch 16 86 = some (.goto (-82), 3) := by decide +kernel
theorem zf16_53 : fetch 16 53 = some (.iconst (-1), 1) := by decide +kernel
theorem zf16_54 : fetch 16 54 = some (.ireturn, 1) := by decide +kernel
theorem zf37_116 : fetch 37 116 = some (.aload_n 0, 1) := by decide +kernel
theorem zf37_117 : fetch 37 117 = some (.getfield 17, 3) := by decide +kernel
theorem zf37_120 : fetch 37 120 = some (.invokevirtual 32, 3) := by decide +kernel
theorem zf37_123 : fetch 37 123 = some (.invokestatic 44, 3) := by decide +kernel
theorem zf37_126 : fetch 37 126 = some (.istore 4, 2) := by decide +kernel
theorem zf37_128 : fetch 37 128 = some (.iload 4, 2) := by decide +kernel
theorem zf37_130 : fetch 37 130 = some (.iconst (-1), 1) := by decide +kernel
theorem zf37_131 : fetch 37 131 = some (.if_icmp .ne 5, 3) := by decide +kernel
theorem zf37_136 : fetch 37 136 = some (.aload_n 0, 1) := by decide +kernel
theorem zf37_137 : fetch 37 137 = some (.getfield 17, 3) := by decide +kernel
theorem zf37_140 : fetch 37 140 = some (.dup, 1) := by decide +kernel
theorem zf37_141 : fetch 37 141 = some (.getfield 21, 3) := by decide +kernel
theorem zf37_144 : fetch 37 144 = some (.iconst 1, 1) := by decide +kernel
theorem zf37_145 : fetch 37 145 = some (.iadd, 1) := by decide +kernel
theorem zf37_146 : fetch 37 146 = some (.putfield 21, 3) := by decide +kernel
theorem zf37_149 : fetch 37 149 = some (.aload_n 0, 1) := by decide +kernel
theorem zf37_150 : fetch 37 150 = some (.iload_n 1, 1) := by decide +kernel
theorem zf37_151 : fetch 37 151 = some (.invokevirtual 40, 3) := by decide +kernel
theorem zf37_154 : fetch 37 154 = some (.ifCond .ne 5, 3) := by decide +kernel
theorem zf37_159 : fetch 37 159 = some (.aload_n 0, 1) := by decide +kernel
theorem zf37_160 : fetch 37 160 = some (.iload 4, 2) := by decide +kernel
theorem zf37_162 : fetch 37 162 = some (.iconst 0, 1) := by decide +kernel
theorem zf37_163 : fetch 37 163 = some (.invokevirtual 50, 3) := by decide +kernel
theorem zf37_166 : fetch 37 166 = some (.iconst 1, 1) := by decide +kernel
theorem zf37_167 : fetch 37 167 = some (.ireturn, 1) := by decide +kernel
theorem zf37_157 : fetch 37 157 = some (.iconst 0, 1) := by decide +kernel
theorem zf37_158 : fetch 37 158 = some (.ireturn, 1) := by decide +kernel
theorem zf37_134 : fetch 37 134 = some (.iconst 0, 1) := by decide +kernel
theorem zf37_135 : fetch 37 135 = some (.ireturn, 1) := by decide +kernel
theorem zf37_24 : fetch 37 24 = some (.iload_n 1, 1) := by decide +kernel
theorem zf37_25 : fetch 37 25 = some (.bipush 6, 2) := by decide +kernel
theorem zf37_27 : fetch 37 27 = some (.if_icmp .lt 5, 3) := by decide +kernel
theorem zf37_32 : fetch 37 32 = some (.aload_n 0, 1) := by decide +kernel
theorem zf37_33 : fetch 37 33 = some (.getfield 17, 3) := by decide +kernel
theorem zf37_36 : fetch 37 36 = some (.dup, 1) := by decide +kernel
theorem zf37_37 : fetch 37 37 = some (.getfield 21, 3) := by decide +kernel
theorem zf37_40 : fetch 37 40 = some (.iconst 1, 1) := by decide +kernel
theorem zf37_41 : fetch 37 41 = some (.iadd, 1) := by decide +kernel
theorem zf37_42 : fetch 37 42 = some (.putfield 21, 3) := by decide +kernel
theorem zf37_45 : fetch 37 45 = some (.iload_n 3, 1) := by decide +kernel
theorem zf37_46 : fetch 37 46 = some (.bipush 40, 2) := by decide +kernel
theorem zf37_48 : fetch 37 48 = some (.if_icmp .ne 32, 3) := by decide +kernel
theorem zf37_80 : fetch 37 80 = some (.aload_n 0, 1) := by decide +kernel
theorem zf37_81 : fetch 37 81 = some (.iload_n 1, 1) := by decide +kernel
theorem zf37_82 : fetch 37 82 = some (.iconst 1, 1) := by decide +kernel
theorem zf37_83 : fetch 37 83 = some (.iadd, 1) := by decide +kernel
theorem zf37_84 : fetch 37 84 = some (.iconst 0, 1) := by decide +kernel
theorem zf37_85 : fetch 37 85 = some (.invokevirtual 58, 3) := by decide +kernel
theorem zf37_88 : fetch 37 88 = some (.ifCond .ne 5, 3) := by decide +kernel
theorem zf37_93 : fetch 37 93 = some (.aload_n 0, 1) := by decide +kernel
theorem zf37_94 : fetch 37 94 = some (.bipush 11, 2) := by decide +kernel
theorem zf37_96 : fetch 37 96 = some (.iconst 0, 1) := by decide +kernel
theorem zf37_97 : fetch 37 97 = some (.invokevirtual 50, 3) := by decide +kernel
theorem zf37_100 : fetch 37 100 = some (.iconst 1, 1) := by decide +kernel
theorem zf37_101 : fetch 37 101 = some (.ireturn, 1) := by decide +kernel
theorem zf37_91 : fetch 37 91 = some (.iconst 0, 1) := by decide +kernel
theorem zf37_92 : fetch 37 92 = some (.ireturn, 1) := by decide +kernel
theorem zf37_51 : fetch 37 51 = some (.aload_n 0, 1) := by decide +kernel
theorem zf37_52 : fetch 37 52 = some (.iload_n 1, 1) := by decide +kernel
theorem zf37_53 : fetch 37 53 = some (.iconst 1, 1) := by decide +kernel
theorem zf37_54 : fetch 37 54 = some (.iadd, 1) := by decide +kernel
theorem zf37_55 : fetch 37 55 = some (.iconst 0, 1) := by decide +kernel
theorem zf37_56 : fetch 37 56 = some (.invokevirtual 54, 3) := by decide +kernel
theorem zf37_59 : fetch 37 59 = some (.ifCond .eq 19, 3) := by decide +kernel
theorem zf37_78 : fetch 37 78 = some (.iconst 0, 1) := by decide +kernel
theorem zf37_79 : fetch 37 79 = some (.ireturn, 1) := by decide +kernel
theorem zf37_62 : fetch 37 62 = some (.aload_n 0, 1) := by decide +kernel
theorem zf37_63 : fetch 37 63 = some (.getfield 17, 3) := by decide +kernel
theorem zf37_66 : fetch 37 66 = some (.bipush 41, 2) := by decide +kernel
theorem zf37_68 : fetch 37 68 = some (.invokevirtual 36, 3) := by decide +kernel
theorem zf37_71 : fetch 37 71 = some (.ifCond .eq 7, 3) := by decide +kernel
theorem zf37_74 : fetch 37 74 = some (.iconst 1, 1) := by decide +kernel
theorem zf37_75 : fetch 37 75 = some (.goto 4, 3) := by decide +kernel
theorem zf37_30 : fetch 37 30 = some (.iconst 0, 1) := by decide +kernel
theorem zf37_31 : fetch 37 31 = some (.ireturn, 1) := by decide +kernel
theorem zf36_55 : fetch 36 55 = some (.iload 5, 2) := by decide +kernel
theorem zf36_57 : fetch 36 57 = some (.ifCond .eq 14, 3) := by decide +kernel
theorem zf36_71 : fetch 36 71 = some (.iload_n 3, 1) := by decide +kernel
theorem zf36_72 : fetch 36 72 = some (.ifCond .ne 8, 3) := by decide +kernel
theorem zf36_80 : fetch 36 80 = some (.iconst 1, 1) := by decide +kernel
theorem zf36_81 : fetch 36 81 = some (.goto 4, 3) := by decide +kernel
theorem zf36_75 : fetch 36 75 = some (.iload 5, 2) := by decide +kernel
theorem zf36_77 : fetch 36 77 = some (.ifCond .eq 7, 3) := by decide +kernel
theorem zf36_84 : fetch 36 84 = some (.iconst 0, 1) := by decide +kernel
theorem zf36_60 : fetch 36 60 = some (.iload_n 3, 1) := by decide +kernel
theorem zf36_61 : fetch 36 61 = some (.ifCond .eq 10, 3) := by decide +kernel
theorem zf36_64 : fetch 36 64 = some (.aload_n 0, 1) := by decide +kernel
theorem zf36_65 : fetch 36 65 = some (.bipush 10, 2) := by decide +kernel
theorem zf36_67 : fetch 36 67 = some (.iconst 0, 1) := by decide +kernel
theorem zf36_68 : fetch 36 68 = some (.invokevirtual 50, 3) := by decide +kernel
theorem zf27_0 : fetch 27 0 = some (.aload_n 0, 1) := by decide +kernel
theorem zf27_1 : fetch 27 1 = some (.invokevirtual 492, 3) := by decide +kernel
theorem zf27_4 : fetch 27 4 = some (.ifCond .eq 19, 3) := by decide +kernel
theorem zf27_23 : fetch 27 23 = some (.aload_n 0, 1) := by decide +kernel
theorem zf27_24 : fetch 27 24 = some (.getfield 9, 3) := by decide +kernel
theorem zf27_27 : fetch 27 27 = some (.iload_n 1, 1) := by decide +kernel
theorem zf27_28 : fetch 27 28 = some (.iload_n 2, 1) := by decide +kernel
theorem zf27_29 : fetch 27 29 = some (.aload_n 0, 1) := by decide +kernel
theorem zf27_30 : fetch 27 30 = some (.invokevirtual 505, 3) := by decide +kernel
theorem zf27_33 : fetch 27 33 = some (.invokestatic 640, 3) := by decide +kernel
theorem zf27_7 : fetch 27 7 = some (.aload_n 0, 1) := by decide +kernel
theorem zf27_8 : fetch 27 8 = some (.getfield 9, 3) := by decide +kernel
theorem zf27_11 : fetch 27 11 = some (.iload_n 1, 1) := by decide +kernel
theorem zf27_12 : fetch 27 12 = some (.iload_n 2, 1) := by decide +kernel
theorem zf27_13 : fetch 27 13 = some (.aload_n 0, 1) := by decide +kernel
theorem zf27_14 : fetch 27 14 = some (.invokevirtual 505, 3) := by decide +kernel
theorem zf27_17 : fetch 27 17 = some (.invokestatic 637, 3) := by decide +kernel
theorem zf27_20 : fetch 27 20 = some (.goto 16, 3) := by decide +kernel
theorem zf27_36 : fetch 27 36 = some (.ireturn, 1) := by decide +kernel
theorem zf85_151 : fetch 85 151 = some (.lload_n 3, 1) := by decide +kernel
theorem zf85_152 : fetch 85 152 = some (.ldc2_w 55, 3) := by decide +kernel
theorem zf85_155 : fetch 85 155 = some (.lcmp, 1) := by decide +kernel
theorem zf85_156 : fetch 85 156 = some (.ifCond .le 6, 3) := by decide +kernel
theorem zf85_162 : fetch 85 162 = some (.lload_n 3, 1) := by decide +kernel
theorem zf85_163 : fetch 85 163 = some (.ldc2_w 58, 3) := by decide +kernel
theorem zf85_166 : fetch 85 166 = some (.lcmp, 1) := by decide +kernel
theorem zf85_167 : fetch 85 167 = some (.ifCond .ge 8, 3) := by decide +kernel
theorem zf85_175 : fetch 85 175 = some (.lload_n 3, 1) := by decide +kernel
theorem zf85_176 : fetch 85 176 = some (.l2i, 1) := by decide +kernel
theorem zf85_177 : fetch 85 177 = some (.ireturn, 1) := by decide +kernel
theorem zf85_170 : fetch 85 170 = some (.ldc 60, 2) := by decide +kernel
theorem zf85_172 : fetch 85 172 = some (.goto 5, 3) := by decide +kernel
theorem zf85_159 : fetch 85 159 = some (.ldc 57, 2) := by decide +kernel
theorem zf85_161 : fetch 85 161 = some (.ireturn, 1) := by decide +kernel
theorem zf129_46 : fetch 129 46 = some (.istore 5, 2) := by decide +kernel
theorem zf129_48 : fetch 129 48 = some (.iload 5, 2) := by decide +kernel
theorem zf129_50 : fetch 129 50 = some (.ifCond .eq 25, 3) := by decide +kernel
theorem zf129_75 : fetch 129 75 = some (.return_, 1) := by decide +kernel
theorem zf129_53 : fetch 129 53 = some (.aload_n 0, 1) := by decide +kernel
theorem zf129_54 : fetch 129 54 = some (.getfield 11, 3) := by decide +kernel
theorem zf129_57 : fetch 129 57 = some (.iload_n 1, 1) := by decide +kernel
theorem zf129_58 : fetch 129 58 = some (.iload_n 2, 1) := by decide +kernel
theorem zf129_59 : fetch 129 59 = some (.iastore, 1) := by decide +kernel
theorem zf129_60 : fetch 129 60 = some (.aload_n 0, 1) := by decide +kernel
theorem zf129_61 : fetch 129 61 = some (.getfield 17, 3) := by decide +kernel
theorem zf129_64 : fetch 129 64 = some (.iload_n 1, 1) := by decide +kernel
theorem zf129_65 : fetch 129 65 = some (.iload_n 3, 1) := by decide +kernel
theorem zf129_66 : fetch 129 66 = some (.iastore, 1) := by decide +kernel
theorem zf129_67 : fetch 129 67 = some (.aload_n 0, 1) := by decide +kernel
theorem zf129_68 : fetch 129 68 = some (.getfield 20, 3) := by decide +kernel
theorem zf129_71 : fetch 129 71 = some (.iload_n 1, 1) := by decide +kernel
theorem zf129_72 : fetch 129 72 = some (.iload 4, 2) := by decide +kernel
theorem zf129_74 : fetch 129 74 = some (.iastore, 1) := by decide +kernel
theorem zf14_0 : fetch 14 0 = some (.iload_n 0, 1) := by decide +kernel
theorem zf14_1 : fetch 14 1 = some (.iload_n 1, 1) := by decide +kernel
theorem zf14_2 : fetch 14 2 = some (.getstatic 1053, 3) := by decide +kernel
theorem zf14_5 : fetch 14 5 = some (.invokestatic 1059, 3) := by decide +kernel
theorem zf14_8 : fetch 14 8 = some (.pop, 1) := by decide +kernel
theorem zf14_9 : fetch 14 9 = some (.return_, 1) := by decide +kernel
theorem zf190_45 : fetch 190 45 = some (.iload 6, 2) := by decide +kernel
theorem zf190_47 : fetch 190 47 = some (.iconst (-1), 1) := by decide +kernel
theorem zf190_48 : fetch 190 48 = some (.if_icmp .eq 90, 3) := by decide +kernel
theorem zf190_138 : fetch 190 138 = some (.return_, 1) := by decide +kernel
theorem zf190_51 : fetch 190 51 = some (.aload_n 0, 1) := by decide +kernel
theorem zf190_52 : fetch 190 52 = some (.getfield 128, 3) := by decide +kernel
theorem zf190_55 : fetch 190 55 = some (.iconst (-1), 1) := by decide +kernel
theorem zf190_56 : fetch 190 56 = some (.if_icmp .ne 82, 3) := by decide +kernel
theorem zf190_59 : fetch 190 59 = some (.iload 5, 2) := by decide +kernel
theorem zf190_61 : fetch 190 61 = some (.iload 6, 2) := by decide +kernel
theorem zf190_63 : fetch 190 63 = some (.invokestatic 229, 3) := by decide +kernel
theorem zf190_66 : fetch 190 66 = some (.ifCond .eq 9, 3) := by decide +kernel
theorem zf190_75 : fetch 190 75 = some (.iload 5, 2) := by decide +kernel
theorem zf190_77 : fetch 190 77 = some (.iconst 1, 1) := by decide +kernel
theorem zf190_78 : fetch 190 78 = some (.iload 6, 2) := by decide +kernel
theorem zf190_80 : fetch 190 80 = some (.ishl, 1) := by decide +kernel
theorem zf190_81 : fetch 190 81 = some (.ior, 1) := by decide +kernel
theorem zf190_82 : fetch 190 82 = some (.istore 5, 2) := by decide +kernel
theorem zf190_84 : fetch 190 84 = some (.aload_n 0, 1) := by decide +kernel
theorem zf190_85 : fetch 190 85 = some (.dup, 1) := by decide +kernel
theorem zf190_86 : fetch 190 86 = some (.getfield 119, 3) := by decide +kernel
theorem zf190_89 : fetch 190 89 = some (.iconst 1, 1) := by decide +kernel
theorem zf190_90 : fetch 190 90 = some (.iadd, 1) := by decide +kernel
theorem zf190_91 : fetch 190 91 = some (.putfield 119, 3) := by decide +kernel
theorem zf190_94 : fetch 190 94 = some (.aload_n 2, 1) := by decide +kernel
theorem zf190_95 : fetch 190 95 = some (.iload_n 3, 1) := by decide +kernel
theorem zf190_96 : fetch 190 96 = some (.iload 6, 2) := by decide +kernel
theorem zf190_98 : fetch 190 98 = some (.iadd, 1) := by decide +kernel
theorem zf190_99 : fetch 190 99 = some (.aload_n 0, 1) := by decide +kernel
theorem zf190_100 : fetch 190 100 = some (.iload_n 1, 1) := by decide +kernel
theorem zf190_101 : fetch 190 101 = some (.iload 6, 2) := by decide +kernel
theorem zf190_103 : fetch 190 103 = some (.invokestatic 233, 3) := by decide +kernel
theorem zf190_106 : fetch 190 106 = some (.iload_n 1, 1) := by decide +kernel
theorem zf190_107 : fetch 190 107 = some (.iload 6, 2) := by decide +kernel
theorem zf190_109 : fetch 190 109 = some (.invokestatic 236, 3) := by decide +kernel
theorem zf190_112 : fetch 190 112 = some (.invokevirtual 239, 3) := by decide +kernel
theorem zf190_115 : fetch 190 115 = some (.iastore, 1) := by decide +kernel
theorem zf190_116 : fetch 190 116 = some (.aload_n 0, 1) := by decide +kernel
theorem zf190_117 : fetch 190 117 = some (.getfield 128, 3) := by decide +kernel
theorem zf190_120 : fetch 190 120 = some (.iconst (-1), 1) := by decide +kernel
theorem zf190_121 : fetch 190 121 = some (.if_icmp .ne (-76), 3) := by decide +kernel
theorem zf190_124 : fetch 190 124 = some (.aload 4, 2) := by decide +kernel
theorem zf190_126 : fetch 190 126 = some (.aload_n 0, 1) := by decide +kernel
theorem zf190_127 : fetch 190 127 = some (.invokevirtual 138, 3) := by decide +kernel
theorem zf190_130 : fetch 190 130 = some (.invokestatic 225, 3) := by decide +kernel
theorem zf190_133 : fetch 190 133 = some (.istore 6, 2) := by decide +kernel
theorem zf190_135 : fetch 190 135 = some (.goto (-90), 3) := by decide +kernel
theorem zf190_69 : fetch 190 69 = some (.aload_n 0, 1) := by decide +kernel
theorem zf190_70 : fetch 190 70 = some (.invokevirtual 134, 3) := by decide +kernel
theorem zf190_73 : fetch 190 73 = some (.pop, 1) := by decide +kernel
theorem zf190_74 : fetch 190 74 = some (.return_, 1) := by decide +kernel
theorem zf36_85 : fetch 36 85 = some (.istore_n 3, 1) := by decide +kernel
theorem zf36_86 : fetch 36 86 = some (.aload_n 0, 1) := by decide +kernel
theorem zf36_87 : fetch 36 87 = some (.iload_n 1, 1) := by decide +kernel
theorem zf36_88 : fetch 36 88 = some (.iconst 0, 1) := by decide +kernel
theorem zf36_89 : fetch 36 89 = some (.invokevirtual 58, 3) := by decide +kernel
theorem zf36_92 : fetch 36 92 = some (.ifCond .ne 5, 3) := by decide +kernel
theorem zf36_97 : fetch 36 97 = some (.iload 5, 2) := by decide +kernel
theorem zf36_99 : fetch 36 99 = some (.ifCond .ne 10, 3) := by decide +kernel
theorem zf36_109 : fetch 36 109 = some (.iinc 4 1, 3) := by decide +kernel
theorem zf36_112 : fetch 36 112 = some (.goto (-96), 3) := by decide +kernel
theorem zf36_102 : fetch 36 102 = some (.aload_n 0, 1) := by decide +kernel
theorem zf36_103 : fetch 36 103 = some (.bipush 9, 2) := by decide +kernel
theorem zf36_105 : fetch 36 105 = some (.iconst 0, 1) := by decide +kernel
theorem zf36_106 : fetch 36 106 = some (.invokevirtual 50, 3) := by decide +kernel
theorem zf36_95 : fetch 36 95 = some (.iconst 0, 1) := by decide +kernel
theorem zf36_96 : fetch 36 96 = some (.ireturn, 1) := by decide +kernel
theorem zf30_0 : fetch 30 0 = some (.iload_n 1, 1) := by decide +kernel
theorem zf30_1 : fetch 30 1 = some (.invokestatic 88, 3) := by decide +kernel
theorem zf30_4 : fetch 30 4 = some (.ifCond .ne 5, 3) := by decide +kernel
theorem zf30_9 : fetch 30 9 = some (.iload_n 2, 1) := by decide +kernel
theorem zf30_10 : fetch 30 10 = some (.iconst 0, 1) := by decide +kernel
theorem zf30_11 : fetch 30 11 = some (.invokestatic 92, 3) := by decide +kernel
theorem zf30_14 : fetch 30 14 = some (.istore_n 2, 1) := by decide +kernel
theorem zf30_15 : fetch 30 15 = some (.iload_n 3, 1) := by decide +kernel
theorem zf30_16 : fetch 30 16 = some (.aload_n 0, 1) := by decide +kernel
theorem zf30_17 : fetch 30 17 = some (.arraylength, 1) := by decide +kernel
theorem zf30_18 : fetch 30 18 = some (.invokestatic 38, 3) := by decide +kernel
theorem zf30_21 : fetch 30 21 = some (.istore_n 3, 1) := by decide +kernel
theorem zf30_22 : fetch 30 22 = some (.iload_n 2, 1) := by decide +kernel
theorem zf30_23 : fetch 30 23 = some (.iload_n 3, 1) := by decide +kernel
theorem zf30_24 : fetch 30 24 = some (.if_icmp .lt 5, 3) := by decide +kernel
theorem zf30_29 : fetch 30 29 = some (.aload_n 0, 1) := by decide +kernel
theorem zf30_30 : fetch 30 30 = some (.iload_n 1, 1) := by decide +kernel
theorem zf30_31 : fetch 30 31 = some (.iload_n 2, 1) := by decide +kernel
theorem zf30_32 : fetch 30 32 = some (.iload_n 3, 1) := by decide +kernel
theorem zf30_33 : fetch 30 33 = some (.invokestatic 95, 3) := by decide +kernel
theorem zf30_36 : fetch 30 36 = some (.ireturn, 1) := by decide +kernel
theorem zf30_27 : fetch 30 27 = some (.iconst (-1), 1) := by decide +kernel
theorem zf30_28 : fetch 30 28 = some (.ireturn, 1) := by decide +kernel
theorem zf30_7 : fetch 30 7 = some (.iconst (-1), 1) := by decide +kernel
theorem zf30_8 : fetch 30 8 = some (.ireturn, 1) := by decide +kernel
theorem zf15_0 : fetch 15 0 = some (.iload_n 0, 1) := by decide +kernel
theorem zf15_1 : fetch 15 1 = some (.ifCond .lt 8, 3) := by decide +kernel
theorem zf15_9 : fetch 15 9 = some (.aload_n 2, 1) := by decide +kernel
theorem zf15_4 : fetch 15 4 = some (.iload_n 0, 1) := by decide +kernel
theorem zf15_5 : fetch 15 5 = some (.iload_n 1, 1) := by decide +kernel
theorem zf15_6 : fetch 15 6 = some (.if_icmp .lt 10, 3) := by decide +kernel
theorem zf15_16 : fetch 15 16 = some (.iload_n 0, 1) := by decide +kernel
theorem zf15_17 : fetch 15 17 = some (.ireturn, 1) := by decide +kernel
theorem zf193_0 : fetch 193 0 = some (.iload_n 0, 1) := by decide +kernel
theorem zf193_1 : fetch 193 1 = some (.bipush 115, 2) := by decide +kernel
theorem zf193_3 : fetch 193 3 = some (.if_icmp .ne 8, 3) := by decide +kernel
theorem zf193_11 : fetch 193 11 = some (.iload_n 0, 1) := by decide +kernel
theorem zf193_12 : fetch 193 12 = some (.bipush 99, 2) := by decide +kernel
theorem zf193_14 : fetch 193 14 = some (.if_icmp .ne 11, 3) := by decide +kernel
theorem zf193_25 : fetch 193 25 = some (.iconst 0, 1) := by decide +kernel
theorem zf193_26 : fetch 193 26 = some (.ireturn, 1) := by decide +kernel
theorem zf193_17 : fetch 193 17 = some (.iload_n 1, 1) := by decide +kernel
theorem zf193_18 : fetch 193 18 = some (.ifCond .ne 7, 3) := by decide +kernel
theorem zf193_21 : fetch 193 21 = some (.iconst 1, 1) := by decide +kernel
theorem zf193_22 : fetch 193 22 = some (.goto 4, 3) := by decide +kernel
theorem zf193_6 : fetch 193 6 = some (.iload_n 1, 1) := by decide +kernel
theorem zf193_7 : fetch 193 7 = some (.iconst 3, 1) := by decide +kernel
theorem zf193_8 : fetch 193 8 = some (.if_icmp .eq 13, 3) := by decide +kernel
theorem zf194_0 : fetch 194 0 = some (.iload_n 0, 1) := by decide +kernel
theorem zf194_1 : fetch 194 1 = some (.bipush 115, 2) := by decide +kernel
theorem zf194_3 : fetch 194 3 = some (.if_icmp .ne 34, 3) := by decide +kernel
theorem zf194_37 : fetch 194 37 = some (.iload_n 0, 1) := by decide +kernel
theorem zf194_38 : fetch 194 38 = some (.bipush 102, 2) := by decide +kernel
theorem zf194_40 : fetch 194 40 = some (.if_icmp .ne 15, 3) := by decide +kernel
theorem zf194_55 : fetch 194 55 = some (.iload_n 1, 1) := by decide +kernel
theorem zf194_56 : fetch 194 56 = some (.iconst 2, 1) := by decide +kernel
theorem zf194_57 : fetch 194 57 = some (.if_icmp .ne 8, 3) := by decide +kernel
theorem zf194_65 : fetch 194 65 = some (.bipush 9, 2) := by decide +kernel
theorem zf194_67 : fetch 194 67 = some (.ireturn, 1) := by decide +kernel
theorem zf194_60 : fetch 194 60 = some (.bipush 7, 2) := by decide +kernel
theorem zf194_62 : fetch 194 62 = some (.goto 5, 3) := by decide +kernel
theorem zf194_43 : fetch 194 43 = some (.iload_n 1, 1) := by decide +kernel
theorem zf194_44 : fetch 194 44 = some (.ifCond .ne 8, 3) := by decide +kernel
theorem zf194_52 : fetch 194 52 = some (.bipush 9, 2) := by decide +kernel
theorem zf194_54 : fetch 194 54 = some (.ireturn, 1) := by decide +kernel
theorem zf194_47 : fetch 194 47 = some (.bipush 40, 2) := by decide +kernel
theorem zf194_49 : fetch 194 49 = some (.goto 5, 3) := by decide +kernel
theorem zf194_6 : fetch 194 6 = some (.iload_n 1, 1) := by decide +kernel
theorem zf194_7 : fetch 194 7 = some (.ifCond .ne 8, 3) := by decide +kernel
theorem zf194_15 : fetch 194 15 = some (.iload_n 1, 1) := by decide +kernel
theorem zf194_16 : fetch 194 16 = some (.iconst 1, 1) := by decide +kernel
theorem zf194_17 : fetch 194 17 = some (.if_icmp .ne 7, 3) := by decide +kernel
theorem zf194_24 : fetch 194 24 = some (.iload_n 1, 1) := by decide +kernel
theorem zf194_25 : fetch 194 25 = some (.iconst 2, 1) := by decide +kernel
theorem zf194_26 : fetch 194 26 = some (.if_icmp .ne 8, 3) := by decide +kernel
theorem zf194_34 : fetch 194 34 = some (.bipush 6, 2) := by decide +kernel
theorem zf194_36 : fetch 194 36 = some (.ireturn, 1) := by decide +kernel
theorem zf194_29 : fetch 194 29 = some (.bipush 99, 2) := by decide +kernel
theorem zf194_31 : fetch 194 31 = some (.goto 5, 3) := by decide +kernel
theorem zf194_20 : fetch 194 20 = some (.iconst 1, 1) := by decide +kernel
theorem zf194_21 : fetch 194 21 = some (.goto 15, 3) := by decide +kernel
theorem zf194_10 : fetch 194 10 = some (.bipush 9, 2) := by decide +kernel
theorem zf194_12 : fetch 194 12 = some (.goto 24, 3) := by decide +kernel
theorem zf195_0 : fetch 195 0 = some (.aload_n 0, 1) := by decide +kernel
theorem zf195_1 : fetch 195 1 = some (.invokevirtual 138, 3) := by decide +kernel
theorem zf195_4 : fetch 195 4 = some (.istore_n 3, 1) := by decide +kernel
theorem zf195_5 : fetch 195 5 = some (.aload_n 0, 1) := by decide +kernel
theorem zf195_6 : fetch 195 6 = some (.invokevirtual 168, 3) := by decide +kernel
theorem zf195_9 : fetch 195 9 = some (.ifCond .ne 10, 3) := by decide +kernel
theorem zf195_19 : fetch 195 19 = some (.iload_n 3, 1) := by decide +kernel
theorem zf195_20 : fetch 195 20 = some (.bipush 48, 2) := by decide +kernel
theorem zf195_22 : fetch 195 22 = some (.isub, 1) := by decide +kernel
theorem zf195_23 : fetch 195 23 = some (.istore 4, 2) := by decide +kernel
theorem zf195_25 : fetch 195 25 = some (.aload_n 0, 1) := by decide +kernel
theorem zf195_26 : fetch 195 26 = some (.dup, 1) := by decide +kernel
theorem zf195_27 : fetch 195 27 = some (.getfield 119, 3) := by decide +kernel
theorem zf195_30 : fetch 195 30 = some (.iconst 1, 1) := by decide +kernel
theorem zf195_31 : fetch 195 31 = some (.iadd, 1) := by decide +kernel
theorem zf195_32 : fetch 195 32 = some (.putfield 119, 3) := by decide +kernel
theorem zf195_35 : fetch 195 35 = some (.aload_n 0, 1) := by decide +kernel
theorem zf195_36 : fetch 195 36 = some (.invokevirtual 168, 3) := by decide +kernel
theorem zf195_39 : fetch 195 39 = some (.ifCond .eq 28, 3) := by decide +kernel
theorem zf195_42 : fetch 195 42 = some (.bipush 10, 2) := by decide +kernel
theorem zf195_44 : fetch 195 44 = some (.iload 4, 2) := by decide +kernel
theorem zf195_46 : fetch 195 46 = some (.imul, 1) := by decide +kernel
theorem zf195_47 : fetch 195 47 = some (.aload_n 0, 1) := by decide +kernel
theorem zf195_48 : fetch 195 48 = some (.invokevirtual 214, 3) := by decide +kernel
theorem zf195_51 : fetch 195 51 = some (.iadd, 1) := by decide +kernel
theorem zf195_52 : fetch 195 52 = some (.bipush 48, 2) := by decide +kernel
theorem zf195_54 : fetch 195 54 = some (.isub, 1) := by decide +kernel
theorem zf195_55 : fetch 195 55 = some (.istore 4, 2) := by decide +kernel
theorem zf195_57 : fetch 195 57 = some (.aload_n 0, 1) := by decide +kernel
theorem zf195_58 : fetch 195 58 = some (.dup, 1) := by decide +kernel
theorem zf195_59 : fetch 195 59 = some (.getfield 119, 3) := by decide +kernel
theorem zf195_62 : fetch 195 62 = some (.iconst 1, 1) := by decide +kernel
theorem zf195_63 : fetch 195 63 = some (.iadd, 1) := by decide +kernel
theorem zf195_64 : fetch 195 64 = some (.putfield 119, 3) := by decide +kernel
theorem zf195_12 : fetch 195 12 = some (.aload_n 0, 1) := by decide +kernel
theorem zf195_13 : fetch 195 13 = some (.invokevirtual 134, 3) := by decide +kernel
theorem zf195_16 : fetch 195 16 = some (.pop, 1) := by decide +kernel
theorem zf195_17 : fetch 195 17 = some (.iconst 0, 1) := by decide +kernel
theorem zf195_18 : fetch 195 18 = some (.ireturn, 1) := by decide +kernel
theorem zf31_0 : fetch 31 0 = some (.iload_n 0, 1) := by decide +kernel
theorem zf31_1 : fetch 31 1 = some (.ifCond .lt 14, 3) := by decide +kernel
theorem zf31_15 : fetch 31 15 = some (.iconst 0, 1) := by decide +kernel
theorem zf31_16 : fetch 31 16 = some (.ireturn, 1) := by decide +kernel
theorem zf31_4 : fetch 31 4 = some (.iload_n 0, 1) := by decide +kernel
theorem zf31_5 : fetch 31 5 = some (.sipush 255, 3) := by decide +kernel
theorem zf31_8 : fetch 31 8 = some (.if_icmp .gt 7, 3) := by decide +kernel
theorem zf31_11 : fetch 31 11 = some (.iconst 1, 1) := by decide +kernel
theorem zf31_12 : fetch 31 12 = some (.goto 4, 3) := by decide +kernel
theorem zf32_0 : fetch 32 0 = some (.iload_n 1, 1) := by decide +kernel
theorem zf32_1 : fetch 32 1 = some (.i2b, 1) := by decide +kernel
theorem zf32_2 : fetch 32 2 = some (.istore 4, 2) := by decide +kernel
theorem zf32_4 : fetch 32 4 = some (.iload_n 2, 1) := by decide +kernel
theorem zf32_5 : fetch 32 5 = some (.istore 5, 2) := by decide +kernel
theorem zf195_67 : fetch 195 67 = some (.aload_n 0, 1) := by decide +kernel
theorem zf195_68 : fetch 195 68 = some (.invokevirtual 168, 3) := by decide +kernel
theorem zf195_71 : fetch 195 71 = some (.ifCond .eq 10, 3) := by decide +kernel
theorem zf195_81 : fetch 195 81 = some (.iload 4, 2) := by decide +kernel
theorem zf195_83 : fetch 195 83 = some (.i2l, 1) := by decide +kernel
theorem zf195_84 : fetch 195 84 = some (.iload_n 1, 1) := by decide +kernel
theorem zf195_85 : fetch 195 85 = some (.i2l, 1) := by decide +kernel
theorem zf195_86 : fetch 195 86 = some (.iload_n 2, 1) := by decide +kernel
theorem zf195_87 : fetch 195 87 = some (.i2l, 1) := by decide +kernel
theorem zf195_88 : fetch 195 88 = some (.invokestatic 217, 3) := by decide +kernel
theorem zf195_91 : fetch 195 91 = some (.ifCond .ne 18, 3) := by decide +kernel
theorem zf195_109 : fetch 195 109 = some (.iload 4, 2) := by decide +kernel
theorem zf195_111 : fetch 195 111 = some (.ireturn, 1) := by decide +kernel
theorem zf195_94 : fetch 195 94 = some (.aload_n 0, 1) := by decide +kernel
theorem zf195_95 : fetch 195 95 = some (.dup, 1) := by decide +kernel
theorem zf195_96 : fetch 195 96 = some (.getfield 119, 3) := by decide +kernel
theorem zf195_99 : fetch 195 99 = some (.iconst 1, 1) := by decide +kernel
theorem zf195_100 : fetch 195 100 = some (.isub, 1) := by decide +kernel
theorem zf195_101 : fetch 195 101 = some (.putfield 119, 3) := by decide +kernel
theorem zf195_104 : fetch 195 104 = some (.aload_n 0, 1) := by decide +kernel
theorem zf195_105 : fetch 195 105 = some (.invokevirtual 134, 3) := by decide +kernel
theorem zf195_108 : fetch 195 108 = some (.pop, 1) := by decide +kernel
theorem zf195_74 : fetch 195 74 = some (.aload_n 0, 1) := by decide +kernel
theorem zf195_75 : fetch 195 75 = some (.invokevirtual 134, 3) := by decide +kernel
theorem zf195_78 : fetch 195 78 = some (.pop, 1) := by decide +kernel
theorem zf195_79 : fetch 195 79 = some (.iconst 0, 1) := by decide +kernel
theorem zf195_80 : fetch 195 80 = some (.ireturn, 1) := by decide +kernel
theorem zf197_0 : fetch 197 0 = some (.aload_n 0, 1) := by decide +kernel
theorem zf197_1 : fetch 197 1 = some (.getfield 119, 3) := by decide +kernel
theorem zf197_4 : fetch 197 4 = some (.aload_n 0, 1) := by decide +kernel
theorem zf197_5 : fetch 197 5 = some (.getfield 122, 3) := by decide +kernel
theorem zf197_8 : fetch 197 8 = some (.if_icmp .ge 24, 3) := by decide +kernel
theorem zf197_32 : fetch 197 32 = some (.iconst (-1), 1) := by decide +kernel
theorem zf197_33 : fetch 197 33 = some (.ireturn, 1) := by decide +kernel
theorem zf197_11 : fetch 197 11 = some (.aload_n 0, 1) := by decide +kernel
theorem zf197_12 : fetch 197 12 = some (.getfield 23, 3) := by decide +kernel
theorem zf197_15 : fetch 197 15 = some (.aload_n 0, 1) := by decide +kernel
theorem zf197_16 : fetch 197 16 = some (.getfield 125, 3) := by decide +kernel
theorem zf197_19 : fetch 197 19 = some (.aload_n 0, 1) := by decide +kernel
theorem zf197_20 : fetch 197 20 = some (.getfield 119, 3) := by decide +kernel
theorem zf197_23 : fetch 197 23 = some (.iadd, 1) := by decide +kernel
theorem zf197_24 : fetch 197 24 = some (.baload, 1) := by decide +kernel
theorem zf197_25 : fetch 197 25 = some (.sipush 255, 3) := by decide +kernel
theorem zf197_28 : fetch 197 28 = some (.iand, 1) := by decide +kernel
theorem zf197_29 : fetch 197 29 = some (.goto 4, 3) := by decide +kernel
theorem zf32_7 : fetch 32 7 = some (.iload 5, 2) := by decide +kernel
theorem zf32_9 : fetch 32 9 = some (.iload_n 3, 1) := by decide +kernel
theorem zf32_10 : fetch 32 10 = some (.if_icmp .ge 21, 3) := by decide +kernel
theorem zf32_31 : fetch 32 31 = some (.iconst (-1), 1) := by decide +kernel
theorem zf32_32 : fetch 32 32 = some (.ireturn, 1) := by decide +kernel
theorem zf32_13 : fetch 32 13 = some (.aload_n 0, 1) := by decide +kernel
theorem zf32_14 : fetch 32 14 = some (.iload 5, 2) := by decide +kernel
theorem zf32_16 : fetch 32 16 = some (.baload, 1) := by decide +kernel
theorem zf32_17 : fetch 32 17 = some (.iload 4, 2) := by decide +kernel
theorem zf32_19 : fetch 32 19 = some (.if_icmp .ne 6, 3) := by decide +kernel
theorem zf32_25 : fetch 32 25 = some (.iinc 5 1, 3) := by decide +kernel
theorem zf32_28 : fetch 32 28 = some (.goto (-21), 3) := by decide +kernel
theorem zf32_22 : fetch 32 22 = some (.iload 5, 2) := by decide +kernel
theorem zf32_24 : fetch 32 24 = some (.ireturn, 1) := by decide +kernel
