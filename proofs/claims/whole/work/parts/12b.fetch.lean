/-! decode rows -/
theorem zf0_0 : fetch 0 0 = some (.iload_n 1, 1) := by decide +kernel
theorem zf0_1 : fetch 0 1 = some (.invokestatic 98, 3) := by decide +kernel
theorem zf0_4 : fetch 0 4 = some (.iload_n 2, 1) := by decide +kernel
theorem zf0_5 : fetch 0 5 = some (.invokestatic 98, 3) := by decide +kernel
theorem zf0_8 : fetch 0 8 = some (.iadd, 1) := by decide +kernel
theorem zf0_9 : fetch 0 9 = some (.iload_n 3, 1) := by decide +kernel
theorem zf0_10 : fetch 0 10 = some (.invokestatic 98, 3) := by decide +kernel
theorem zf0_13 : fetch 0 13 = some (.iadd, 1) := by decide +kernel
theorem zf0_14 : fetch 0 14 = some (.iload 4, 2) := by decide +kernel
theorem zf0_16 : fetch 0 16 = some (.invokestatic 98, 3) := by decide +kernel
theorem zf0_19 : fetch 0 19 = some (.iadd, 1) := by decide +kernel
theorem zf0_20 : fetch 0 20 = some (.iload 5, 2) := by decide +kernel
theorem zf0_22 : fetch 0 22 = some (.invokestatic 98, 3) := by decide +kernel
theorem zf0_25 : fetch 0 25 = some (.iadd, 1) := by decide +kernel
theorem zf0_26 : fetch 0 26 = some (.istore 6, 2) := by decide +kernel
theorem zf0_28 : fetch 0 28 = some (.aload_n 0, 1) := by decide +kernel
theorem zf0_29 : fetch 0 29 = some (.getfield 10, 3) := by decide +kernel
theorem zf0_32 : fetch 0 32 = some (.getfield 102, 3) := by decide +kernel
theorem zf0_35 : fetch 0 35 = some (.iload 6, 2) := by decide +kernel
theorem zf0_37 : fetch 0 37 = some (.iadd, 1) := by decide +kernel
theorem zf0_38 : fetch 0 38 = some (.sipush 240, 3) := by decide +kernel
theorem zf0_41 : fetch 0 41 = some (.if_icmp .le 5, 3) := by decide +kernel
theorem zf0_46 : fetch 0 46 = some (.aload_n 0, 1) := by decide +kernel
theorem zf0_47 : fetch 0 47 = some (.getfield 10, 3) := by decide +kernel
theorem zf0_50 : fetch 0 50 = some (.iload_n 1, 1) := by decide +kernel
theorem zf0_51 : fetch 0 51 = some (.invokevirtual 106, 3) := by decide +kernel
theorem zf0_54 : fetch 0 54 = some (.aload_n 0, 1) := by decide +kernel
theorem zf0_55 : fetch 0 55 = some (.getfield 10, 3) := by decide +kernel
theorem zf0_58 : fetch 0 58 = some (.iload_n 2, 1) := by decide +kernel
theorem zf0_59 : fetch 0 59 = some (.invokevirtual 106, 3) := by decide +kernel
theorem zf0_62 : fetch 0 62 = some (.aload_n 0, 1) := by decide +kernel
theorem zf0_63 : fetch 0 63 = some (.getfield 10, 3) := by decide +kernel
theorem zf0_66 : fetch 0 66 = some (.iload_n 3, 1) := by decide +kernel
theorem zf0_67 : fetch 0 67 = some (.invokevirtual 106, 3) := by decide +kernel
theorem zf0_70 : fetch 0 70 = some (.aload_n 0, 1) := by decide +kernel
theorem zf0_71 : fetch 0 71 = some (.getfield 10, 3) := by decide +kernel
theorem zf0_74 : fetch 0 74 = some (.iload 4, 2) := by decide +kernel
theorem zf0_76 : fetch 0 76 = some (.invokevirtual 106, 3) := by decide +kernel
theorem zf0_79 : fetch 0 79 = some (.aload_n 0, 1) := by decide +kernel
theorem zf0_80 : fetch 0 80 = some (.getfield 10, 3) := by decide +kernel
theorem zf0_83 : fetch 0 83 = some (.iload 5, 2) := by decide +kernel
theorem zf0_85 : fetch 0 85 = some (.invokevirtual 106, 3) := by decide +kernel
theorem zf0_88 : fetch 0 88 = some (.aload_n 0, 1) := by decide +kernel
theorem zf0_89 : fetch 0 89 = some (.getfield 10, 3) := by decide +kernel
theorem zf0_92 : fetch 0 92 = some (.getfield 102, 3) := by decide +kernel
theorem zf0_95 : fetch 0 95 = some (.ireturn, 1) := by decide +kernel
theorem zf0_44 : fetch 0 44 = some (.iconst (-1), 1) := by decide +kernel
theorem zf0_45 : fetch 0 45 = some (.ireturn, 1) := by decide +kernel
theorem zf3_0 : fetch 3 0 = some (.iload_n 1, 1) := by decide +kernel
theorem zf3_1 : fetch 3 1 = some (.ifCond .lt 14, 3) := by decide +kernel
theorem zf3_15 : fetch 3 15 = some (.iconst 0, 1) := by decide +kernel
theorem zf3_16 : fetch 3 16 = some (.ireturn, 1) := by decide +kernel
theorem zf3_4 : fetch 3 4 = some (.iload_n 1, 1) := by decide +kernel
theorem zf3_5 : fetch 3 5 = some (.aload_n 0, 1) := by decide +kernel
theorem zf3_6 : fetch 3 6 = some (.getfield 10, 3) := by decide +kernel
theorem zf3_9 : fetch 3 9 = some (.getfield 102, 3) := by decide +kernel
theorem zf3_12 : fetch 3 12 = some (.if_icmp .le 5, 3) := by decide +kernel
theorem zf3_17 : fetch 3 17 = some (.aload_n 0, 1) := by decide +kernel
theorem zf3_18 : fetch 3 18 = some (.getfield 10, 3) := by decide +kernel
theorem zf3_21 : fetch 3 21 = some (.iload_n 1, 1) := by decide +kernel
theorem zf3_22 : fetch 3 22 = some (.putfield 102, 3) := by decide +kernel
theorem zf3_25 : fetch 3 25 = some (.iconst 1, 1) := by decide +kernel
theorem zf3_26 : fetch 3 26 = some (.ireturn, 1) := by decide +kernel
theorem zf4_0 : fetch 4 0 = some (.iload_n 1, 1) := by decide +kernel
theorem zf4_1 : fetch 4 1 = some (.tableswitch 51 0 2 #[27, 35, 43], 27) := by decide +kernel
theorem zf4_28 : fetch 4 28 = some (.aload_n 0, 1) := by decide +kernel
theorem zf4_29 : fetch 4 29 = some (.getfield 28, 3) := by decide +kernel
theorem zf4_32 : fetch 4 32 = some (.invokevirtual 110, 3) := by decide +kernel
theorem zf4_35 : fetch 4 35 = some (.ireturn, 1) := by decide +kernel
theorem zf4_36 : fetch 4 36 = some (.aload_n 0, 1) := by decide +kernel
theorem zf4_37 : fetch 4 37 = some (.getfield 35, 3) := by decide +kernel
theorem zf4_40 : fetch 4 40 = some (.invokevirtual 114, 3) := by decide +kernel
theorem zf4_43 : fetch 4 43 = some (.ireturn, 1) := by decide +kernel
theorem zf4_44 : fetch 4 44 = some (.aload_n 0, 1) := by decide +kernel
theorem zf4_45 : fetch 4 45 = some (.getfield 49, 3) := by decide +kernel
theorem zf4_48 : fetch 4 48 = some (.invokevirtual 115, 3) := by decide +kernel
theorem zf4_51 : fetch 4 51 = some (.ireturn, 1) := by decide +kernel
theorem zf4_52 : fetch 4 52 = some (.bipush (-2), 2) := by decide +kernel
theorem zf4_54 : fetch 4 54 = some (.ireturn, 1) := by decide +kernel
theorem zf44_0 : fetch 44 0 = some (.iload_n 1, 1) := by decide +kernel
theorem zf44_1 : fetch 44 1 = some (.ifCond .ne 26, 3) := by decide +kernel
theorem zf44_4 : fetch 44 4 = some (.aload_n 0, 1) := by decide +kernel
theorem zf44_5 : fetch 44 5 = some (.getfield 28, 3) := by decide +kernel
theorem zf44_8 : fetch 44 8 = some (.invokevirtual 110, 3) := by decide +kernel
theorem zf44_11 : fetch 44 11 = some (.iconst (-1), 1) := by decide +kernel
theorem zf44_12 : fetch 44 12 = some (.if_icmp .ne 15, 3) := by decide +kernel
theorem zf44_15 : fetch 44 15 = some (.aload_n 0, 1) := by decide +kernel
theorem zf44_16 : fetch 44 16 = some (.invokevirtual 116, 3) := by decide +kernel
theorem zf44_19 : fetch 44 19 = some (.aload_n 0, 1) := by decide +kernel
theorem zf44_20 : fetch 44 20 = some (.getfield 19, 3) := by decide +kernel
theorem zf44_23 : fetch 44 23 = some (.getfield 119, 3) := by decide +kernel
theorem zf44_26 : fetch 44 26 = some (.ireturn, 1) := by decide +kernel
theorem zf60_0 : fetch 60 0 = some (.aload_n 0, 1) := by decide +kernel
theorem zf60_1 : fetch 60 1 = some (.getfield 19, 3) := by decide +kernel
theorem zf60_4 : fetch 60 4 = some (.invokevirtual 159, 3) := by decide +kernel
theorem zf60_7 : fetch 60 7 = some (.ifCond .ne 5, 3) := by decide +kernel
theorem zf60_12 : fetch 60 12 = some (.iload_n 1, 1) := by decide +kernel
theorem zf60_13 : fetch 60 13 = some (.tableswitch 83 0 4 #[35, 45, 55, 65, 73], 35) := by decide +kernel
theorem zf60_48 : fetch 60 48 = some (.aload_n 0, 1) := by decide +kernel
theorem zf60_49 : fetch 60 49 = some (.getfield 88, 3) := by decide +kernel
theorem zf60_52 : fetch 60 52 = some (.getfield 162, 3) := by decide +kernel
theorem zf60_55 : fetch 60 55 = some (.iconst 1, 1) := by decide +kernel
theorem zf60_56 : fetch 60 56 = some (.iaload, 1) := by decide +kernel
theorem zf60_57 : fetch 60 57 = some (.ireturn, 1) := by decide +kernel
theorem zf60_58 : fetch 60 58 = some (.aload_n 0, 1) := by decide +kernel
theorem zf60_59 : fetch 60 59 = some (.getfield 88, 3) := by decide +kernel
theorem zf60_62 : fetch 60 62 = some (.getfield 162, 3) := by decide +kernel
theorem zf60_65 : fetch 60 65 = some (.iconst 2, 1) := by decide +kernel
theorem zf60_66 : fetch 60 66 = some (.iaload, 1) := by decide +kernel
theorem zf60_67 : fetch 60 67 = some (.ireturn, 1) := by decide +kernel
theorem zf60_68 : fetch 60 68 = some (.aload_n 0, 1) := by decide +kernel
theorem zf60_69 : fetch 60 69 = some (.getfield 88, 3) := by decide +kernel
theorem zf60_72 : fetch 60 72 = some (.getfield 162, 3) := by decide +kernel
theorem zf60_75 : fetch 60 75 = some (.iconst 0, 1) := by decide +kernel
theorem zf60_76 : fetch 60 76 = some (.iaload, 1) := by decide +kernel
theorem zf60_77 : fetch 60 77 = some (.ireturn, 1) := by decide +kernel
theorem zf60_78 : fetch 60 78 = some (.aload_n 0, 1) := by decide +kernel
theorem zf60_79 : fetch 60 79 = some (.getfield 19, 3) := by decide +kernel
theorem zf60_82 : fetch 60 82 = some (.invokevirtual 165, 3) := by decide +kernel
theorem zf60_85 : fetch 60 85 = some (.ireturn, 1) := by decide +kernel
theorem zf60_86 : fetch 60 86 = some (.aload_n 0, 1) := by decide +kernel
theorem zf60_87 : fetch 60 87 = some (.getfield 88, 3) := by decide +kernel
theorem zf60_90 : fetch 60 90 = some (.getfield 162, 3) := by decide +kernel
theorem zf60_93 : fetch 60 93 = some (.iconst 3, 1) := by decide +kernel
theorem zf60_94 : fetch 60 94 = some (.iaload, 1) := by decide +kernel
theorem zf60_95 : fetch 60 95 = some (.ireturn, 1) := by decide +kernel
theorem zf60_96 : fetch 60 96 = some (.iconst (-1), 1) := by decide +kernel
theorem zf60_97 : fetch 60 97 = some (.ireturn, 1) := by decide +kernel
theorem zf60_10 : fetch 60 10 = some (.iconst (-1), 1) := by decide +kernel
theorem zf60_11 : fetch 60 11 = some (.ireturn, 1) := by decide +kernel
theorem zf63_0 : fetch 63 0 = some (.aload_n 0, 1) := by decide +kernel
theorem zf63_1 : fetch 63 1 = some (.getfield 19, 3) := by decide +kernel
theorem zf63_4 : fetch 63 4 = some (.iload_n 1, 1) := by decide +kernel
theorem zf63_5 : fetch 63 5 = some (.invokevirtual 168, 3) := by decide +kernel
theorem zf63_8 : fetch 63 8 = some (.ifCond .ne 5, 3) := by decide +kernel
theorem zf63_13 : fetch 63 13 = some (.iload_n 2, 1) := by decide +kernel
theorem zf63_14 : fetch 63 14 = some (.tableswitch 74 0 3 #[30, 39, 48, 61], 30) := by decide +kernel
theorem zf63_44 : fetch 63 44 = some (.aload_n 0, 1) := by decide +kernel
theorem zf63_45 : fetch 63 45 = some (.getfield 19, 3) := by decide +kernel
theorem zf63_48 : fetch 63 48 = some (.iload_n 1, 1) := by decide +kernel
theorem zf63_49 : fetch 63 49 = some (.invokevirtual 172, 3) := by decide +kernel
theorem zf63_52 : fetch 63 52 = some (.ireturn, 1) := by decide +kernel
theorem zf63_53 : fetch 63 53 = some (.aload_n 0, 1) := by decide +kernel
theorem zf63_54 : fetch 63 54 = some (.getfield 19, 3) := by decide +kernel
theorem zf63_57 : fetch 63 57 = some (.iload_n 1, 1) := by decide +kernel
theorem zf63_58 : fetch 63 58 = some (.invokevirtual 175, 3) := by decide +kernel
theorem zf63_61 : fetch 63 61 = some (.ireturn, 1) := by decide +kernel
theorem zf63_62 : fetch 63 62 = some (.aload_n 0, 1) := by decide +kernel
theorem zf63_63 : fetch 63 63 = some (.getfield 88, 3) := by decide +kernel
theorem zf63_66 : fetch 63 66 = some (.getfield 162, 3) := by decide +kernel
theorem zf63_69 : fetch 63 69 = some (.bipush 21, 2) := by decide +kernel
theorem zf63_71 : fetch 63 71 = some (.iload_n 1, 1) := by decide +kernel
theorem zf63_72 : fetch 63 72 = some (.iadd, 1) := by decide +kernel
theorem zf63_73 : fetch 63 73 = some (.iaload, 1) := by decide +kernel
theorem zf63_74 : fetch 63 74 = some (.ireturn, 1) := by decide +kernel
theorem zf63_75 : fetch 63 75 = some (.aload_n 0, 1) := by decide +kernel
theorem zf63_76 : fetch 63 76 = some (.getfield 88, 3) := by decide +kernel
theorem zf63_79 : fetch 63 79 = some (.getfield 162, 3) := by decide +kernel
theorem zf63_82 : fetch 63 82 = some (.bipush 29, 2) := by decide +kernel
theorem zf63_84 : fetch 63 84 = some (.iload_n 1, 1) := by decide +kernel
theorem zf63_85 : fetch 63 85 = some (.iadd, 1) := by decide +kernel
theorem zf63_86 : fetch 63 86 = some (.iaload, 1) := by decide +kernel
theorem zf63_87 : fetch 63 87 = some (.ireturn, 1) := by decide +kernel
theorem zf63_88 : fetch 63 88 = some (.iconst (-1), 1) := by decide +kernel
theorem zf63_89 : fetch 63 89 = some (.ireturn, 1) := by decide +kernel
theorem zf63_11 : fetch 63 11 = some (.iconst (-1), 1) := by decide +kernel
theorem zf63_12 : fetch 63 12 = some (.ireturn, 1) := by decide +kernel
theorem zf65_0 : fetch 65 0 = some (.iload_n 1, 1) := by decide +kernel
theorem zf65_1 : fetch 65 1 = some (.iconst (-1), 1) := by decide +kernel
theorem zf65_2 : fetch 65 2 = some (.if_icmp .lt 14, 3) := by decide +kernel
theorem zf65_16 : fetch 65 16 = some (.iconst 0, 1) := by decide +kernel
theorem zf65_17 : fetch 65 17 = some (.ireturn, 1) := by decide +kernel
theorem zf65_5 : fetch 65 5 = some (.iload_n 1, 1) := by decide +kernel
theorem zf65_6 : fetch 65 6 = some (.aload_n 0, 1) := by decide +kernel
theorem zf65_7 : fetch 65 7 = some (.getfield 42, 3) := by decide +kernel
theorem zf65_10 : fetch 65 10 = some (.getfield 196, 3) := by decide +kernel
theorem zf65_13 : fetch 65 13 = some (.if_icmp .lt 5, 3) := by decide +kernel
theorem zf65_18 : fetch 65 18 = some (.aload_n 0, 1) := by decide +kernel
theorem zf65_19 : fetch 65 19 = some (.getfield 42, 3) := by decide +kernel
theorem zf65_22 : fetch 65 22 = some (.iload_n 1, 1) := by decide +kernel
theorem zf65_23 : fetch 65 23 = some (.putfield 199, 3) := by decide +kernel
theorem zf65_26 : fetch 65 26 = some (.iconst 1, 1) := by decide +kernel
theorem zf65_27 : fetch 65 27 = some (.ireturn, 1) := by decide +kernel
theorem zf66_0 : fetch 66 0 = some (.iload_n 1, 1) := by decide +kernel
theorem zf66_1 : fetch 66 1 = some (.ifCond .lt 17, 3) := by decide +kernel
theorem zf66_18 : fetch 66 18 = some (.iconst 0, 1) := by decide +kernel
theorem zf66_19 : fetch 66 19 = some (.ireturn, 1) := by decide +kernel
theorem zf66_4 : fetch 66 4 = some (.iload_n 1, 1) := by decide +kernel
theorem zf66_5 : fetch 66 5 = some (.bipush 9, 2) := by decide +kernel
theorem zf66_7 : fetch 66 7 = some (.if_icmp .gt 11, 3) := by decide +kernel
theorem zf66_10 : fetch 66 10 = some (.iload_n 1, 1) := by decide +kernel
theorem zf66_11 : fetch 66 11 = some (.aload_n 0, 1) := by decide +kernel
theorem zf66_12 : fetch 66 12 = some (.getfield 202, 3) := by decide +kernel
theorem zf66_15 : fetch 66 15 = some (.if_icmp .ne 5, 3) := by decide +kernel
theorem zf66_20 : fetch 66 20 = some (.aload_n 0, 1) := by decide +kernel
theorem zf66_21 : fetch 66 21 = some (.iload_n 1, 1) := by decide +kernel
theorem zf66_22 : fetch 66 22 = some (.putfield 202, 3) := by decide +kernel
theorem zf66_25 : fetch 66 25 = some (.iconst 1, 1) := by decide +kernel
theorem zf66_26 : fetch 66 26 = some (.ireturn, 1) := by decide +kernel
theorem zf67_0 : fetch 67 0 = some (.iload_n 1, 1) := by decide +kernel
theorem zf67_1 : fetch 67 1 = some (.tableswitch 200 0 13 #[71, 79, 87, 95, 103, 111, 119, 129, 146, 163, 168, 176, 184, 192], 71) := by decide +kernel
theorem zf67_72 : fetch 67 72 = some (.aload_n 0, 1) := by decide +kernel
theorem zf67_73 : fetch 67 73 = some (.getfield 19, 3) := by decide +kernel
theorem zf67_76 : fetch 67 76 = some (.getfield 119, 3) := by decide +kernel
theorem zf67_79 : fetch 67 79 = some (.ireturn, 1) := by decide +kernel
theorem zf67_80 : fetch 67 80 = some (.aload_n 0, 1) := by decide +kernel
theorem zf67_81 : fetch 67 81 = some (.getfield 19, 3) := by decide +kernel
theorem zf67_84 : fetch 67 84 = some (.getfield 205, 3) := by decide +kernel
theorem zf67_87 : fetch 67 87 = some (.ireturn, 1) := by decide +kernel
theorem zf67_88 : fetch 67 88 = some (.aload_n 0, 1) := by decide +kernel
theorem zf67_89 : fetch 67 89 = some (.getfield 42, 3) := by decide +kernel
theorem zf67_92 : fetch 67 92 = some (.getfield 196, 3) := by decide +kernel
theorem zf67_95 : fetch 67 95 = some (.ireturn, 1) := by decide +kernel
theorem zf67_96 : fetch 67 96 = some (.aload_n 0, 1) := by decide +kernel
theorem zf67_97 : fetch 67 97 = some (.getfield 49, 3) := by decide +kernel
theorem zf67_100 : fetch 67 100 = some (.getfield 208, 3) := by decide +kernel
theorem zf67_103 : fetch 67 103 = some (.ireturn, 1) := by decide +kernel
theorem zf67_104 : fetch 67 104 = some (.aload_n 0, 1) := by decide +kernel
theorem zf67_105 : fetch 67 105 = some (.getfield 10, 3) := by decide +kernel
theorem zf67_108 : fetch 67 108 = some (.getfield 102, 3) := by decide +kernel
theorem zf67_111 : fetch 67 111 = some (.ireturn, 1) := by decide +kernel
theorem zf67_112 : fetch 67 112 = some (.aload_n 0, 1) := by decide +kernel
theorem zf67_113 : fetch 67 113 = some (.getfield 42, 3) := by decide +kernel
theorem zf67_116 : fetch 67 116 = some (.getfield 199, 3) := by decide +kernel
theorem zf67_119 : fetch 67 119 = some (.ireturn, 1) := by decide +kernel
theorem zf67_120 : fetch 67 120 = some (.aload_n 0, 1) := by decide +kernel
theorem zf67_121 : fetch 67 121 = some (.getfield 88, 3) := by decide +kernel
theorem zf67_124 : fetch 67 124 = some (.getfield 162, 3) := by decide +kernel
theorem zf67_127 : fetch 67 127 = some (.iconst 4, 1) := by decide +kernel
theorem zf67_128 : fetch 67 128 = some (.iaload, 1) := by decide +kernel
theorem zf67_129 : fetch 67 129 = some (.ireturn, 1) := by decide +kernel
theorem zf67_130 : fetch 67 130 = some (.aload_n 0, 1) := by decide +kernel
theorem zf67_131 : fetch 67 131 = some (.getfield 88, 3) := by decide +kernel
theorem zf67_134 : fetch 67 134 = some (.bipush 21, 2) := by decide +kernel
theorem zf67_136 : fetch 67 136 = some (.aload_n 0, 1) := by decide +kernel
theorem zf67_137 : fetch 67 137 = some (.getfield 19, 3) := by decide +kernel
theorem zf67_140 : fetch 67 140 = some (.getfield 119, 3) := by decide +kernel
theorem zf67_143 : fetch 67 143 = some (.invokevirtual 209, 3) := by decide +kernel
theorem zf67_146 : fetch 67 146 = some (.ireturn, 1) := by decide +kernel
theorem zf67_147 : fetch 67 147 = some (.aload_n 0, 1) := by decide +kernel
theorem zf67_148 : fetch 67 148 = some (.getfield 88, 3) := by decide +kernel
theorem zf67_151 : fetch 67 151 = some (.bipush 11, 2) := by decide +kernel
theorem zf67_153 : fetch 67 153 = some (.aload_n 0, 1) := by decide +kernel
theorem zf67_154 : fetch 67 154 = some (.getfield 19, 3) := by decide +kernel
theorem zf67_157 : fetch 67 157 = some (.getfield 205, 3) := by decide +kernel
theorem zf67_160 : fetch 67 160 = some (.invokevirtual 209, 3) := by decide +kernel
theorem zf67_163 : fetch 67 163 = some (.ireturn, 1) := by decide +kernel
theorem zf67_164 : fetch 67 164 = some (.aload_n 0, 1) := by decide +kernel
theorem zf67_165 : fetch 67 165 = some (.getfield 202, 3) := by decide +kernel
theorem zf67_168 : fetch 67 168 = some (.ireturn, 1) := by decide +kernel
theorem zf67_169 : fetch 67 169 = some (.aload_n 0, 1) := by decide +kernel
theorem zf67_170 : fetch 67 170 = some (.getfield 74, 3) := by decide +kernel
theorem zf67_173 : fetch 67 173 = some (.getfield 213, 3) := by decide +kernel
theorem zf67_176 : fetch 67 176 = some (.ireturn, 1) := by decide +kernel
theorem zf67_177 : fetch 67 177 = some (.aload_n 0, 1) := by decide +kernel
theorem zf67_178 : fetch 67 178 = some (.getfield 74, 3) := by decide +kernel
theorem zf67_181 : fetch 67 181 = some (.getfield 216, 3) := by decide +kernel
theorem zf67_184 : fetch 67 184 = some (.ireturn, 1) := by decide +kernel
theorem zf67_185 : fetch 67 185 = some (.aload_n 0, 1) := by decide +kernel
theorem zf67_186 : fetch 67 186 = some (.getfield 88, 3) := by decide +kernel
theorem zf67_189 : fetch 67 189 = some (.invokevirtual 219, 3) := by decide +kernel
theorem zf67_192 : fetch 67 192 = some (.ireturn, 1) := by decide +kernel
theorem zf67_193 : fetch 67 193 = some (.aload_n 0, 1) := by decide +kernel
theorem zf67_194 : fetch 67 194 = some (.getfield 81, 3) := by decide +kernel
theorem zf67_197 : fetch 67 197 = some (.getfield 222, 3) := by decide +kernel
theorem zf67_200 : fetch 67 200 = some (.ireturn, 1) := by decide +kernel
theorem zf67_201 : fetch 67 201 = some (.ldc 223, 2) := by decide +kernel
theorem zf67_203 : fetch 67 203 = some (.ireturn, 1) := by decide +kernel
theorem zf70_0 : fetch 70 0 = some (.aload_n 0, 1) := by decide +kernel
theorem zf70_1 : fetch 70 1 = some (.aload_n 0, 1) := by decide +kernel
theorem zf70_2 : fetch 70 2 = some (.getfield 88, 3) := by decide +kernel
theorem zf70_5 : fetch 70 5 = some (.iload_n 1, 1) := by decide +kernel
theorem zf70_6 : fetch 70 6 = some (.iload_n 2, 1) := by decide +kernel
theorem zf70_7 : fetch 70 7 = some (.invokevirtual 224, 3) := by decide +kernel
theorem zf70_10 : fetch 70 10 = some (.ifCond .eq 20, 3) := by decide +kernel
theorem zf70_30 : fetch 70 30 = some (.iconst (-1), 1) := by decide +kernel
theorem zf70_31 : fetch 70 31 = some (.ireturn, 1) := by decide +kernel
theorem zf70_13 : fetch 70 13 = some (.iload_n 3, 1) := by decide +kernel
theorem zf70_14 : fetch 70 14 = some (.invokestatic 228, 3) := by decide +kernel
theorem zf70_17 : fetch 70 17 = some (.ifCond .eq 13, 3) := by decide +kernel
theorem zf70_20 : fetch 70 20 = some (.aload_n 0, 1) := by decide +kernel
theorem zf70_21 : fetch 70 21 = some (.iload_n 1, 1) := by decide +kernel
theorem zf70_22 : fetch 70 22 = some (.iload 4, 2) := by decide +kernel
theorem zf70_24 : fetch 70 24 = some (.invokevirtual 231, 3) := by decide +kernel
theorem zf70_27 : fetch 70 27 = some (.ifCond .ne 5, 3) := by decide +kernel
theorem zf70_32 : fetch 70 32 = some (.aload_n 0, 1) := by decide +kernel
theorem zf70_33 : fetch 70 33 = some (.getfield 81, 3) := by decide +kernel
theorem zf70_36 : fetch 70 36 = some (.aload_n 0, 1) := by decide +kernel
theorem zf70_37 : fetch 70 37 = some (.getfield 88, 3) := by decide +kernel
theorem zf70_40 : fetch 70 40 = some (.invokevirtual 235, 3) := by decide +kernel
theorem zf70_43 : fetch 70 43 = some (.aload_n 0, 1) := by decide +kernel
theorem zf70_44 : fetch 70 44 = some (.aload_n 0, 1) := by decide +kernel
theorem zf70_45 : fetch 70 45 = some (.getfield 88, 3) := by decide +kernel
theorem zf70_48 : fetch 70 48 = some (.iload_n 1, 1) := by decide +kernel
theorem zf70_49 : fetch 70 49 = some (.iload_n 2, 1) := by decide +kernel
theorem zf70_50 : fetch 70 50 = some (.iload_n 3, 1) := by decide +kernel
theorem zf70_51 : fetch 70 51 = some (.iload 4, 2) := by decide +kernel
theorem zf70_53 : fetch 70 53 = some (.invokevirtual 239, 3) := by decide +kernel
theorem zf70_56 : fetch 70 56 = some (.istore 5, 2) := by decide +kernel
theorem zf70_58 : fetch 70 58 = some (.iload 5, 2) := by decide +kernel
theorem zf70_60 : fetch 70 60 = some (.iconst (-1), 1) := by decide +kernel
theorem zf70_61 : fetch 70 61 = some (.if_icmp .ne 8, 3) := by decide +kernel
theorem zf70_69 : fetch 70 69 = some (.iload 5, 2) := by decide +kernel
theorem zf70_71 : fetch 70 71 = some (.ireturn, 1) := by decide +kernel
theorem zf70_64 : fetch 70 64 = some (.bipush (-2), 2) := by decide +kernel
theorem zf70_66 : fetch 70 66 = some (.goto 5, 3) := by decide +kernel
theorem zf90_0 : fetch 90 0 = some (.aload_n 0, 1) := by decide +kernel
theorem zf90_1 : fetch 90 1 = some (.aload_n 0, 1) := by decide +kernel
theorem zf90_2 : fetch 90 2 = some (.getfield 88, 3) := by decide +kernel
theorem zf90_5 : fetch 90 5 = some (.iload_n 1, 1) := by decide +kernel
theorem zf90_6 : fetch 90 6 = some (.iload_n 2, 1) := by decide +kernel
theorem zf90_7 : fetch 90 7 = some (.invokevirtual 243, 3) := by decide +kernel
theorem zf90_10 : fetch 90 10 = some (.ifCond .ne 5, 3) := by decide +kernel
theorem zf90_15 : fetch 90 15 = some (.aload_n 0, 1) := by decide +kernel
theorem zf90_16 : fetch 90 16 = some (.getfield 81, 3) := by decide +kernel
theorem zf90_19 : fetch 90 19 = some (.aload_n 0, 1) := by decide +kernel
theorem zf90_20 : fetch 90 20 = some (.getfield 88, 3) := by decide +kernel
theorem zf90_23 : fetch 90 23 = some (.invokevirtual 235, 3) := by decide +kernel
theorem zf90_26 : fetch 90 26 = some (.aload_n 0, 1) := by decide +kernel
theorem zf90_27 : fetch 90 27 = some (.getfield 88, 3) := by decide +kernel
theorem zf90_30 : fetch 90 30 = some (.getfield 162, 3) := by decide +kernel
theorem zf90_33 : fetch 90 33 = some (.bipush 29, 2) := by decide +kernel
theorem zf90_35 : fetch 90 35 = some (.iload_n 1, 1) := by decide +kernel
theorem zf90_36 : fetch 90 36 = some (.iadd, 1) := by decide +kernel
theorem zf90_37 : fetch 90 37 = some (.dup2, 1) := by decide +kernel
theorem zf90_38 : fetch 90 38 = some (.iaload, 1) := by decide +kernel
theorem zf90_39 : fetch 90 39 = some (.iconst 1, 1) := by decide +kernel
theorem zf90_40 : fetch 90 40 = some (.iload_n 2, 1) := by decide +kernel
theorem zf90_41 : fetch 90 41 = some (.ishl, 1) := by decide +kernel
theorem zf90_42 : fetch 90 42 = some (.ior, 1) := by decide +kernel
theorem zf90_43 : fetch 90 43 = some (.iastore, 1) := by decide +kernel
theorem zf90_44 : fetch 90 44 = some (.iconst 1, 1) := by decide +kernel
theorem zf90_45 : fetch 90 45 = some (.ireturn, 1) := by decide +kernel
theorem zf90_13 : fetch 90 13 = some (.iconst 0, 1) := by decide +kernel
theorem zf90_14 : fetch 90 14 = some (.ireturn, 1) := by decide +kernel
theorem zf93_0 : fetch 93 0 = some (.aload_n 0, 1) := by decide +kernel
theorem zf93_1 : fetch 93 1 = some (.getfield 19, 3) := by decide +kernel
theorem zf93_4 : fetch 93 4 = some (.iload_n 1, 1) := by decide +kernel
theorem zf93_5 : fetch 93 5 = some (.invokevirtual 168, 3) := by decide +kernel
theorem zf93_8 : fetch 93 8 = some (.ifCond .eq 33, 3) := by decide +kernel
theorem zf93_41 : fetch 93 41 = some (.iconst (-1), 1) := by decide +kernel
theorem zf93_42 : fetch 93 42 = some (.ireturn, 1) := by decide +kernel
theorem zf93_11 : fetch 93 11 = some (.iload_n 2, 1) := by decide +kernel
theorem zf93_12 : fetch 93 12 = some (.iconst 1, 1) := by decide +kernel
theorem zf93_13 : fetch 93 13 = some (.if_icmp .lt 28, 3) := by decide +kernel
theorem zf93_16 : fetch 93 16 = some (.iload_n 2, 1) := by decide +kernel
theorem zf93_17 : fetch 93 17 = some (.bipush 9, 2) := by decide +kernel
theorem zf93_19 : fetch 93 19 = some (.if_icmp .gt 22, 3) := by decide +kernel
theorem zf93_22 : fetch 93 22 = some (.aload_n 0, 1) := by decide +kernel
theorem zf93_23 : fetch 93 23 = some (.getfield 88, 3) := by decide +kernel
theorem zf93_26 : fetch 93 26 = some (.getfield 162, 3) := by decide +kernel
theorem zf93_29 : fetch 93 29 = some (.bipush 21, 2) := by decide +kernel
theorem zf93_31 : fetch 93 31 = some (.iload_n 1, 1) := by decide +kernel
theorem zf93_32 : fetch 93 32 = some (.iadd, 1) := by decide +kernel
theorem zf93_33 : fetch 93 33 = some (.iaload, 1) := by decide +kernel
theorem zf93_34 : fetch 93 34 = some (.iload_n 2, 1) := by decide +kernel
theorem zf93_35 : fetch 93 35 = some (.iadd, 1) := by decide +kernel
theorem zf93_36 : fetch 93 36 = some (.bipush 9, 2) := by decide +kernel
theorem zf93_38 : fetch 93 38 = some (.if_icmp .le 5, 3) := by decide +kernel
theorem zf93_43 : fetch 93 43 = some (.aload_n 0, 1) := by decide +kernel
theorem zf93_44 : fetch 93 44 = some (.getfield 81, 3) := by decide +kernel
theorem zf93_47 : fetch 93 47 = some (.aload_n 0, 1) := by decide +kernel
theorem zf93_48 : fetch 93 48 = some (.getfield 88, 3) := by decide +kernel
theorem zf93_51 : fetch 93 51 = some (.invokevirtual 235, 3) := by decide +kernel
theorem zf93_54 : fetch 93 54 = some (.aload_n 0, 1) := by decide +kernel
theorem zf93_55 : fetch 93 55 = some (.getfield 88, 3) := by decide +kernel
theorem zf93_58 : fetch 93 58 = some (.getfield 162, 3) := by decide +kernel
theorem zf93_61 : fetch 93 61 = some (.bipush 21, 2) := by decide +kernel
theorem zf93_63 : fetch 93 63 = some (.iload_n 1, 1) := by decide +kernel
theorem zf93_64 : fetch 93 64 = some (.iadd, 1) := by decide +kernel
theorem zf93_65 : fetch 93 65 = some (.dup2, 1) := by decide +kernel
theorem zf93_66 : fetch 93 66 = some (.iaload, 1) := by decide +kernel
theorem zf93_67 : fetch 93 67 = some (.iload_n 2, 1) := by decide +kernel
theorem zf93_68 : fetch 93 68 = some (.iadd, 1) := by decide +kernel
theorem zf93_69 : fetch 93 69 = some (.iastore, 1) := by decide +kernel
theorem zf93_70 : fetch 93 70 = some (.aload_n 0, 1) := by decide +kernel
theorem zf93_71 : fetch 93 71 = some (.getfield 88, 3) := by decide +kernel
theorem zf93_74 : fetch 93 74 = some (.getfield 162, 3) := by decide +kernel
theorem zf93_77 : fetch 93 77 = some (.bipush 21, 2) := by decide +kernel
theorem zf93_79 : fetch 93 79 = some (.iload_n 1, 1) := by decide +kernel
theorem zf93_80 : fetch 93 80 = some (.iadd, 1) := by decide +kernel
theorem zf93_81 : fetch 93 81 = some (.iaload, 1) := by decide +kernel
theorem zf93_82 : fetch 93 82 = some (.ireturn, 1) := by decide +kernel
theorem zf94_0 : fetch 94 0 = some (.aload_n 0, 1) := by decide +kernel
theorem zf94_1 : fetch 94 1 = some (.getfield 19, 3) := by decide +kernel
theorem zf94_4 : fetch 94 4 = some (.invokevirtual 159, 3) := by decide +kernel
theorem zf94_7 : fetch 94 7 = some (.ifCond .eq 30, 3) := by decide +kernel
theorem zf94_37 : fetch 94 37 = some (.iconst (-1), 1) := by decide +kernel
theorem zf94_38 : fetch 94 38 = some (.ireturn, 1) := by decide +kernel
theorem zf94_10 : fetch 94 10 = some (.iload_n 1, 1) := by decide +kernel
theorem zf94_11 : fetch 94 11 = some (.iconst 1, 1) := by decide +kernel
theorem zf94_12 : fetch 94 12 = some (.if_icmp .lt 25, 3) := by decide +kernel
theorem zf94_15 : fetch 94 15 = some (.iload_n 1, 1) := by decide +kernel
theorem zf94_16 : fetch 94 16 = some (.bipush 50, 2) := by decide +kernel
theorem zf94_18 : fetch 94 18 = some (.if_icmp .gt 19, 3) := by decide +kernel
theorem zf94_21 : fetch 94 21 = some (.aload_n 0, 1) := by decide +kernel
theorem zf94_22 : fetch 94 22 = some (.getfield 88, 3) := by decide +kernel
theorem zf94_25 : fetch 94 25 = some (.getfield 162, 3) := by decide +kernel
theorem zf94_28 : fetch 94 28 = some (.iconst 0, 1) := by decide +kernel
theorem zf94_29 : fetch 94 29 = some (.iaload, 1) := by decide +kernel
theorem zf94_30 : fetch 94 30 = some (.iload_n 1, 1) := by decide +kernel
theorem zf94_31 : fetch 94 31 = some (.iadd, 1) := by decide +kernel
theorem zf94_32 : fetch 94 32 = some (.bipush 99, 2) := by decide +kernel
theorem zf94_34 : fetch 94 34 = some (.if_icmp .le 5, 3) := by decide +kernel
theorem zf94_39 : fetch 94 39 = some (.aload_n 0, 1) := by decide +kernel
theorem zf94_40 : fetch 94 40 = some (.getfield 81, 3) := by decide +kernel
theorem zf94_43 : fetch 94 43 = some (.aload_n 0, 1) := by decide +kernel
theorem zf94_44 : fetch 94 44 = some (.getfield 88, 3) := by decide +kernel
theorem zf94_47 : fetch 94 47 = some (.invokevirtual 235, 3) := by decide +kernel
theorem zf94_50 : fetch 94 50 = some (.aload_n 0, 1) := by decide +kernel
theorem zf94_51 : fetch 94 51 = some (.getfield 88, 3) := by decide +kernel
theorem zf94_54 : fetch 94 54 = some (.getfield 162, 3) := by decide +kernel
theorem zf94_57 : fetch 94 57 = some (.iconst 0, 1) := by decide +kernel
theorem zf94_58 : fetch 94 58 = some (.dup2, 1) := by decide +kernel
theorem zf94_59 : fetch 94 59 = some (.iaload, 1) := by decide +kernel
theorem zf94_60 : fetch 94 60 = some (.iload_n 1, 1) := by decide +kernel
theorem zf94_61 : fetch 94 61 = some (.iadd, 1) := by decide +kernel
theorem zf94_62 : fetch 94 62 = some (.iastore, 1) := by decide +kernel
theorem zf94_63 : fetch 94 63 = some (.aload_n 0, 1) := by decide +kernel
theorem zf94_64 : fetch 94 64 = some (.getfield 88, 3) := by decide +kernel
theorem zf94_67 : fetch 94 67 = some (.getfield 162, 3) := by decide +kernel
theorem zf94_70 : fetch 94 70 = some (.iconst 0, 1) := by decide +kernel
theorem zf94_71 : fetch 94 71 = some (.iaload, 1) := by decide +kernel
theorem zf94_72 : fetch 94 72 = some (.ireturn, 1) := by decide +kernel
theorem zf95_0 : fetch 95 0 = some (.aload_n 0, 1) := by decide +kernel
theorem zf95_1 : fetch 95 1 = some (.getfield 19, 3) := by decide +kernel
theorem zf95_4 : fetch 95 4 = some (.invokevirtual 159, 3) := by decide +kernel
theorem zf95_7 : fetch 95 7 = some (.ifCond .eq 32, 3) := by decide +kernel
theorem zf95_39 : fetch 95 39 = some (.iconst 0, 1) := by decide +kernel
theorem zf95_40 : fetch 95 40 = some (.ireturn, 1) := by decide +kernel
theorem zf95_10 : fetch 95 10 = some (.iload_n 1, 1) := by decide +kernel
theorem zf95_11 : fetch 95 11 = some (.ifCond .lt 28, 3) := by decide +kernel
theorem zf95_14 : fetch 95 14 = some (.iload_n 1, 1) := by decide +kernel
theorem zf95_15 : fetch 95 15 = some (.bipush 9, 2) := by decide +kernel
theorem zf95_17 : fetch 95 17 = some (.if_icmp .gt 22, 3) := by decide +kernel
theorem zf95_20 : fetch 95 20 = some (.iload_n 2, 1) := by decide +kernel
theorem zf95_21 : fetch 95 21 = some (.invokestatic 228, 3) := by decide +kernel
theorem zf95_24 : fetch 95 24 = some (.ifCond .eq 15, 3) := by decide +kernel
theorem zf95_27 : fetch 95 27 = some (.aload_n 0, 1) := by decide +kernel
theorem zf95_28 : fetch 95 28 = some (.getfield 88, 3) := by decide +kernel
theorem zf95_31 : fetch 95 31 = some (.iload_n 1, 1) := by decide +kernel
theorem zf95_32 : fetch 95 32 = some (.iload_n 2, 1) := by decide +kernel
theorem zf95_33 : fetch 95 33 = some (.invokevirtual 246, 3) := by decide +kernel
theorem zf95_36 : fetch 95 36 = some (.ifCond .eq 5, 3) := by decide +kernel
theorem zf95_41 : fetch 95 41 = some (.aload_n 0, 1) := by decide +kernel
theorem zf95_42 : fetch 95 42 = some (.getfield 81, 3) := by decide +kernel
theorem zf95_45 : fetch 95 45 = some (.aload_n 0, 1) := by decide +kernel
theorem zf95_46 : fetch 95 46 = some (.getfield 88, 3) := by decide +kernel
theorem zf95_49 : fetch 95 49 = some (.invokevirtual 235, 3) := by decide +kernel
theorem zf95_52 : fetch 95 52 = some (.aload_n 0, 1) := by decide +kernel
theorem zf95_53 : fetch 95 53 = some (.getfield 88, 3) := by decide +kernel
theorem zf95_56 : fetch 95 56 = some (.getfield 162, 3) := by decide +kernel
theorem zf95_59 : fetch 95 59 = some (.iconst 1, 1) := by decide +kernel
theorem zf95_60 : fetch 95 60 = some (.iload_n 1, 1) := by decide +kernel
theorem zf95_61 : fetch 95 61 = some (.iastore, 1) := by decide +kernel
theorem zf95_62 : fetch 95 62 = some (.aload_n 0, 1) := by decide +kernel
theorem zf95_63 : fetch 95 63 = some (.getfield 88, 3) := by decide +kernel
theorem zf95_66 : fetch 95 66 = some (.getfield 162, 3) := by decide +kernel
theorem zf95_69 : fetch 95 69 = some (.iconst 2, 1) := by decide +kernel
theorem zf95_70 : fetch 95 70 = some (.iload_n 2, 1) := by decide +kernel
theorem zf95_71 : fetch 95 71 = some (.iastore, 1) := by decide +kernel
theorem zf95_72 : fetch 95 72 = some (.iconst 1, 1) := by decide +kernel
theorem zf95_73 : fetch 95 73 = some (.ireturn, 1) := by decide +kernel
theorem zf97_0 : fetch 97 0 = some (.aload_n 0, 1) := by decide +kernel
theorem zf97_1 : fetch 97 1 = some (.getfield 19, 3) := by decide +kernel
theorem zf97_4 : fetch 97 4 = some (.invokevirtual 159, 3) := by decide +kernel
theorem zf97_7 : fetch 97 7 = some (.ifCond .eq 26, 3) := by decide +kernel
theorem zf97_33 : fetch 97 33 = some (.iconst 0, 1) := by decide +kernel
theorem zf97_34 : fetch 97 34 = some (.ireturn, 1) := by decide +kernel
theorem zf97_10 : fetch 97 10 = some (.iload_n 1, 1) := by decide +kernel
theorem zf97_11 : fetch 97 11 = some (.ifCond .lt 22, 3) := by decide +kernel
theorem zf97_14 : fetch 97 14 = some (.iload_n 1, 1) := by decide +kernel
theorem zf97_15 : fetch 97 15 = some (.bipush 9, 2) := by decide +kernel
theorem zf97_17 : fetch 97 17 = some (.if_icmp .gt 16, 3) := by decide +kernel
theorem zf97_20 : fetch 97 20 = some (.iload_n 1, 1) := by decide +kernel
theorem zf97_21 : fetch 97 21 = some (.aload_n 0, 1) := by decide +kernel
theorem zf97_22 : fetch 97 22 = some (.getfield 88, 3) := by decide +kernel
theorem zf97_25 : fetch 97 25 = some (.getfield 162, 3) := by decide +kernel
theorem zf97_28 : fetch 97 28 = some (.iconst 3, 1) := by decide +kernel
theorem zf97_29 : fetch 97 29 = some (.iaload, 1) := by decide +kernel
theorem zf97_30 : fetch 97 30 = some (.if_icmp .ne 5, 3) := by decide +kernel
theorem zf97_35 : fetch 97 35 = some (.aload_n 0, 1) := by decide +kernel
theorem zf97_36 : fetch 97 36 = some (.getfield 81, 3) := by decide +kernel
theorem zf97_39 : fetch 97 39 = some (.aload_n 0, 1) := by decide +kernel
theorem zf97_40 : fetch 97 40 = some (.getfield 88, 3) := by decide +kernel
theorem zf97_43 : fetch 97 43 = some (.invokevirtual 235, 3) := by decide +kernel
theorem zf97_46 : fetch 97 46 = some (.aload_n 0, 1) := by decide +kernel
theorem zf97_47 : fetch 97 47 = some (.getfield 88, 3) := by decide +kernel
theorem zf97_50 : fetch 97 50 = some (.getfield 162, 3) := by decide +kernel
theorem zf97_53 : fetch 97 53 = some (.iconst 3, 1) := by decide +kernel
theorem zf97_54 : fetch 97 54 = some (.iload_n 1, 1) := by decide +kernel
theorem zf97_55 : fetch 97 55 = some (.iastore, 1) := by decide +kernel
theorem zf97_56 : fetch 97 56 = some (.iconst 1, 1) := by decide +kernel
theorem zf97_57 : fetch 97 57 = some (.ireturn, 1) := by decide +kernel
theorem zf98_0 : fetch 98 0 = some (.aload_n 0, 1) := by decide +kernel
theorem zf98_1 : fetch 98 1 = some (.iload_n 1, 1) := by decide +kernel
theorem zf98_2 : fetch 98 2 = some (.invokevirtual 249, 3) := by decide +kernel
theorem zf98_5 : fetch 98 5 = some (.ifCond .ne 5, 3) := by decide +kernel
theorem zf98_10 : fetch 98 10 = some (.iconst 0, 1) := by decide +kernel
theorem zf98_11 : fetch 98 11 = some (.istore_n 2, 1) := by decide +kernel
theorem zf98_8 : fetch 98 8 = some (.iconst (-1), 1) := by decide +kernel
theorem zf98_9 : fetch 98 9 = some (.ireturn, 1) := by decide +kernel
theorem zf101_0 : fetch 101 0 = some (.aload_n 0, 1) := by decide +kernel
theorem zf101_1 : fetch 101 1 = some (.iload_n 1, 1) := by decide +kernel
theorem zf101_2 : fetch 101 2 = some (.invokevirtual 249, 3) := by decide +kernel
theorem zf101_5 : fetch 101 5 = some (.ifCond .ne 5, 3) := by decide +kernel
theorem zf101_10 : fetch 101 10 = some (.lload_n 2, 1) := by decide +kernel
theorem zf101_11 : fetch 101 11 = some (.lstore 4, 2) := by decide +kernel
theorem zf101_13 : fetch 101 13 = some (.iconst 0, 1) := by decide +kernel
theorem zf101_14 : fetch 101 14 = some (.istore 6, 2) := by decide +kernel
theorem zf101_8 : fetch 101 8 = some (.iconst (-1), 1) := by decide +kernel
theorem zf101_9 : fetch 101 9 = some (.ireturn, 1) := by decide +kernel
theorem zf106_0 : fetch 106 0 = some (.aload_n 0, 1) := by decide +kernel
theorem zf106_1 : fetch 106 1 = some (.getfield 81, 3) := by decide +kernel
theorem zf106_4 : fetch 106 4 = some (.aload_n 0, 1) := by decide +kernel
theorem zf106_5 : fetch 106 5 = some (.getfield 88, 3) := by decide +kernel
theorem zf106_8 : fetch 106 8 = some (.invokevirtual 259, 3) := by decide +kernel
theorem zf106_11 : fetch 106 11 = some (.ifCond .eq 13, 3) := by decide +kernel
theorem zf106_24 : fetch 106 24 = some (.iconst (-1), 1) := by decide +kernel
theorem zf106_25 : fetch 106 25 = some (.ireturn, 1) := by decide +kernel
theorem zf106_14 : fetch 106 14 = some (.aload_n 0, 1) := by decide +kernel
theorem zf106_15 : fetch 106 15 = some (.getfield 81, 3) := by decide +kernel
theorem zf106_18 : fetch 106 18 = some (.getfield 222, 3) := by decide +kernel
theorem zf106_21 : fetch 106 21 = some (.goto 4, 3) := by decide +kernel
theorem zf108_0 : fetch 108 0 = some (.iload_n 1, 1) := by decide +kernel
theorem zf108_1 : fetch 108 1 = some (.ifCond .lt 23, 3) := by decide +kernel
theorem zf108_24 : fetch 108 24 = some (.ldc 223, 2) := by decide +kernel
theorem zf108_26 : fetch 108 26 = some (.ireturn, 1) := by decide +kernel
theorem zf108_4 : fetch 108 4 = some (.iload_n 1, 1) := by decide +kernel
theorem zf108_5 : fetch 108 5 = some (.aload_n 0, 1) := by decide +kernel
theorem zf108_6 : fetch 108 6 = some (.getfield 88, 3) := by decide +kernel
theorem zf108_9 : fetch 108 9 = some (.invokevirtual 219, 3) := by decide +kernel
theorem zf108_12 : fetch 108 12 = some (.if_icmp .ge 12, 3) := by decide +kernel
theorem zf108_15 : fetch 108 15 = some (.iload_n 2, 1) := by decide +kernel
theorem zf108_16 : fetch 108 16 = some (.ifCond .lt 8, 3) := by decide +kernel
theorem zf108_19 : fetch 108 19 = some (.iload_n 2, 1) := by decide +kernel
theorem zf108_20 : fetch 108 20 = some (.iconst 4, 1) := by decide +kernel
theorem zf108_21 : fetch 108 21 = some (.if_icmp .lt 6, 3) := by decide +kernel
theorem zf108_27 : fetch 108 27 = some (.aload_n 0, 1) := by decide +kernel
theorem zf108_28 : fetch 108 28 = some (.getfield 88, 3) := by decide +kernel
theorem zf108_31 : fetch 108 31 = some (.iload_n 1, 1) := by decide +kernel
theorem zf108_32 : fetch 108 32 = some (.iload_n 2, 1) := by decide +kernel
theorem zf108_33 : fetch 108 33 = some (.invokevirtual 263, 3) := by decide +kernel
theorem zf108_36 : fetch 108 36 = some (.ireturn, 1) := by decide +kernel
theorem zf110_0 : fetch 110 0 = some (.aload_n 0, 1) := by decide +kernel
theorem zf110_1 : fetch 110 1 = some (.getfield 19, 3) := by decide +kernel
theorem zf110_4 : fetch 110 4 = some (.invokevirtual 159, 3) := by decide +kernel
theorem zf110_7 : fetch 110 7 = some (.ifCond .ne 5, 3) := by decide +kernel
theorem zf110_12 : fetch 110 12 = some (.aload_n 0, 1) := by decide +kernel
theorem zf110_13 : fetch 110 13 = some (.getfield 95, 3) := by decide +kernel
theorem zf110_16 : fetch 110 16 = some (.aload_n 0, 1) := by decide +kernel
theorem zf110_17 : fetch 110 17 = some (.getfield 88, 3) := by decide +kernel
theorem zf110_20 : fetch 110 20 = some (.invokevirtual 266, 3) := by decide +kernel
theorem zf110_23 : fetch 110 23 = some (.aload_n 0, 1) := by decide +kernel
theorem zf110_24 : fetch 110 24 = some (.iconst 1, 1) := by decide +kernel
theorem zf110_25 : fetch 110 25 = some (.putfield 155, 3) := by decide +kernel
theorem zf110_28 : fetch 110 28 = some (.aload_n 0, 1) := by decide +kernel
theorem zf110_29 : fetch 110 29 = some (.getfield 88, 3) := by decide +kernel
theorem zf110_32 : fetch 110 32 = some (.getfield 162, 3) := by decide +kernel
theorem zf110_35 : fetch 110 35 = some (.iconst 4, 1) := by decide +kernel
theorem zf110_36 : fetch 110 36 = some (.iaload, 1) := by decide +kernel
theorem zf110_37 : fetch 110 37 = some (.ireturn, 1) := by decide +kernel
theorem zf110_10 : fetch 110 10 = some (.iconst (-1), 1) := by decide +kernel
theorem zf110_11 : fetch 110 11 = some (.ireturn, 1) := by decide +kernel
theorem zf112_0 : fetch 112 0 = some (.aload_n 0, 1) := by decide +kernel
theorem zf112_1 : fetch 112 1 = some (.getfield 155, 3) := by decide +kernel
theorem zf112_4 : fetch 112 4 = some (.ifCond .ne 5, 3) := by decide +kernel
theorem zf112_9 : fetch 112 9 = some (.aload_n 0, 1) := by decide +kernel
theorem zf112_10 : fetch 112 10 = some (.getfield 88, 3) := by decide +kernel
theorem zf112_13 : fetch 112 13 = some (.aload_n 0, 1) := by decide +kernel
theorem zf112_14 : fetch 112 14 = some (.getfield 95, 3) := by decide +kernel
theorem zf112_17 : fetch 112 17 = some (.invokevirtual 266, 3) := by decide +kernel
theorem zf112_20 : fetch 112 20 = some (.aload_n 0, 1) := by decide +kernel
theorem zf112_21 : fetch 112 21 = some (.getfield 81, 3) := by decide +kernel
theorem zf112_24 : fetch 112 24 = some (.invokevirtual 150, 3) := by decide +kernel
theorem zf112_27 : fetch 112 27 = some (.aload_n 0, 1) := by decide +kernel
theorem zf112_28 : fetch 112 28 = some (.getfield 88, 3) := by decide +kernel
theorem zf112_31 : fetch 112 31 = some (.getfield 162, 3) := by decide +kernel
theorem zf112_34 : fetch 112 34 = some (.iconst 4, 1) := by decide +kernel
theorem zf112_35 : fetch 112 35 = some (.iaload, 1) := by decide +kernel
theorem zf112_36 : fetch 112 36 = some (.ireturn, 1) := by decide +kernel
theorem zf112_7 : fetch 112 7 = some (.iconst (-1), 1) := by decide +kernel
theorem zf112_8 : fetch 112 8 = some (.ireturn, 1) := by decide +kernel
theorem zf113_0 : fetch 113 0 = some (.aload_n 0, 1) := by decide +kernel
theorem zf113_1 : fetch 113 1 = some (.getfield 49, 3) := by decide +kernel
theorem zf113_4 : fetch 113 4 = some (.iload_n 1, 1) := by decide +kernel
theorem zf113_5 : fetch 113 5 = some (.invokevirtual 308, 3) := by decide +kernel
theorem zf113_8 : fetch 113 8 = some (.ifCond .eq 29, 3) := by decide +kernel
theorem zf113_37 : fetch 113 37 = some (.ldc 223, 2) := by decide +kernel
theorem zf113_39 : fetch 113 39 = some (.ireturn, 1) := by decide +kernel
theorem zf113_11 : fetch 113 11 = some (.iload_n 2, 1) := by decide +kernel
theorem zf113_12 : fetch 113 12 = some (.ifCond .lt 25, 3) := by decide +kernel
theorem zf113_15 : fetch 113 15 = some (.iload_n 2, 1) := by decide +kernel
theorem zf113_16 : fetch 113 16 = some (.aload_n 0, 1) := by decide +kernel
theorem zf113_17 : fetch 113 17 = some (.getfield 49, 3) := by decide +kernel
theorem zf113_20 : fetch 113 20 = some (.getfield 311, 3) := by decide +kernel
theorem zf113_23 : fetch 113 23 = some (.iload_n 1, 1) := by decide +kernel
theorem zf113_24 : fetch 113 24 = some (.iaload, 1) := by decide +kernel
theorem zf113_25 : fetch 113 25 = some (.if_icmp .ge 12, 3) := by decide +kernel
theorem zf113_28 : fetch 113 28 = some (.iload_n 3, 1) := by decide +kernel
theorem zf113_29 : fetch 113 29 = some (.ifCond .lt 8, 3) := by decide +kernel
theorem zf113_32 : fetch 113 32 = some (.iload_n 3, 1) := by decide +kernel
theorem zf113_33 : fetch 113 33 = some (.iconst 4, 1) := by decide +kernel
theorem zf113_34 : fetch 113 34 = some (.if_icmp .lt 6, 3) := by decide +kernel
theorem zf113_40 : fetch 113 40 = some (.aload_n 0, 1) := by decide +kernel
theorem zf113_41 : fetch 113 41 = some (.getfield 49, 3) := by decide +kernel
theorem zf113_44 : fetch 113 44 = some (.iload_n 1, 1) := by decide +kernel
theorem zf113_45 : fetch 113 45 = some (.iload_n 2, 1) := by decide +kernel
theorem zf113_46 : fetch 113 46 = some (.iload_n 3, 1) := by decide +kernel
theorem zf113_47 : fetch 113 47 = some (.invokevirtual 314, 3) := by decide +kernel
theorem zf113_50 : fetch 113 50 = some (.ireturn, 1) := by decide +kernel
theorem zf116_0 : fetch 116 0 = some (.aload_n 0, 1) := by decide +kernel
theorem zf116_1 : fetch 116 1 = some (.getfield 19, 3) := by decide +kernel
theorem zf116_4 : fetch 116 4 = some (.invokevirtual 159, 3) := by decide +kernel
theorem zf116_7 : fetch 116 7 = some (.ifCond .eq 23, 3) := by decide +kernel
theorem zf116_30 : fetch 116 30 = some (.ldc 223, 2) := by decide +kernel
theorem zf116_32 : fetch 116 32 = some (.ireturn, 1) := by decide +kernel
theorem zf116_10 : fetch 116 10 = some (.aload_n 0, 1) := by decide +kernel
theorem zf116_11 : fetch 116 11 = some (.getfield 49, 3) := by decide +kernel
theorem zf116_14 : fetch 116 14 = some (.iload_n 1, 1) := by decide +kernel
theorem zf116_15 : fetch 116 15 = some (.invokevirtual 308, 3) := by decide +kernel
theorem zf116_18 : fetch 116 18 = some (.ifCond .eq 12, 3) := by decide +kernel
theorem zf116_21 : fetch 116 21 = some (.iload_n 2, 1) := by decide +kernel
theorem zf116_22 : fetch 116 22 = some (.ifCond .lt 8, 3) := by decide +kernel
theorem zf116_25 : fetch 116 25 = some (.iload_n 2, 1) := by decide +kernel
theorem zf116_26 : fetch 116 26 = some (.iconst 1, 1) := by decide +kernel
theorem zf116_27 : fetch 116 27 = some (.if_icmp .le 6, 3) := by decide +kernel
theorem zf116_33 : fetch 116 33 = some (.aload_n 0, 1) := by decide +kernel
theorem zf116_34 : fetch 116 34 = some (.getfield 92, 3) := by decide +kernel
theorem zf116_37 : fetch 116 37 = some (.aload_n 0, 1) := by decide +kernel
theorem zf116_38 : fetch 116 38 = some (.getfield 88, 3) := by decide +kernel
theorem zf116_41 : fetch 116 41 = some (.invokevirtual 266, 3) := by decide +kernel
theorem zf116_44 : fetch 116 44 = some (.aload_n 0, 1) := by decide +kernel
theorem zf116_45 : fetch 116 45 = some (.aload_n 0, 1) := by decide +kernel
theorem zf116_46 : fetch 116 46 = some (.getfield 92, 3) := by decide +kernel
theorem zf116_49 : fetch 116 49 = some (.iload_n 1, 1) := by decide +kernel
theorem zf116_50 : fetch 116 50 = some (.iconst 0, 1) := by decide +kernel
theorem zf116_51 : fetch 116 51 = some (.invokevirtual 318, 3) := by decide +kernel
theorem zf116_54 : fetch 116 54 = some (.istore_n 3, 1) := by decide +kernel
theorem zf116_55 : fetch 116 55 = some (.iload_n 2, 1) := by decide +kernel
theorem zf116_56 : fetch 116 56 = some (.iconst 1, 1) := by decide +kernel
theorem zf116_57 : fetch 116 57 = some (.if_icmp .ne 23, 3) := by decide +kernel
theorem zf116_80 : fetch 116 80 = some (.iload_n 3, 1) := by decide +kernel
theorem zf116_81 : fetch 116 81 = some (.aload_n 0, 1) := by decide +kernel
theorem zf116_82 : fetch 116 82 = some (.getfield 49, 3) := by decide +kernel
theorem zf116_85 : fetch 116 85 = some (.getfield 311, 3) := by decide +kernel
theorem zf116_88 : fetch 116 88 = some (.iload_n 1, 1) := by decide +kernel
theorem zf116_89 : fetch 116 89 = some (.iaload, 1) := by decide +kernel
theorem zf116_90 : fetch 116 90 = some (.if_icmp .ne 7, 3) := by decide +kernel
theorem zf116_97 : fetch 116 97 = some (.iload_n 3, 1) := by decide +kernel
theorem zf116_98 : fetch 116 98 = some (.ireturn, 1) := by decide +kernel
theorem zf116_93 : fetch 116 93 = some (.iconst (-1), 1) := by decide +kernel
theorem zf116_94 : fetch 116 94 = some (.goto 4, 3) := by decide +kernel
theorem zf116_60 : fetch 116 60 = some (.aload_n 0, 1) := by decide +kernel
theorem zf116_61 : fetch 116 61 = some (.getfield 88, 3) := by decide +kernel
theorem zf116_64 : fetch 116 64 = some (.getfield 162, 3) := by decide +kernel
theorem zf116_67 : fetch 116 67 = some (.iconst 0, 1) := by decide +kernel
theorem zf116_68 : fetch 116 68 = some (.iaload, 1) := by decide +kernel
theorem zf116_69 : fetch 116 69 = some (.aload_n 0, 1) := by decide +kernel
theorem zf116_70 : fetch 116 70 = some (.getfield 92, 3) := by decide +kernel
theorem zf116_73 : fetch 116 73 = some (.getfield 162, 3) := by decide +kernel
theorem zf116_76 : fetch 116 76 = some (.iconst 0, 1) := by decide +kernel
theorem zf116_77 : fetch 116 77 = some (.iaload, 1) := by decide +kernel
theorem zf116_78 : fetch 116 78 = some (.isub, 1) := by decide +kernel
theorem zf116_79 : fetch 116 79 = some (.ireturn, 1) := by decide +kernel
theorem zf120_0 : fetch 120 0 = some (.aload_n 0, 1) := by decide +kernel
theorem zf120_1 : fetch 120 1 = some (.getfield 19, 3) := by decide +kernel
theorem zf120_4 : fetch 120 4 = some (.invokevirtual 159, 3) := by decide +kernel
theorem zf120_7 : fetch 120 7 = some (.ifCond .eq 14, 3) := by decide +kernel
theorem zf120_21 : fetch 120 21 = some (.iconst (-1), 1) := by decide +kernel
theorem zf120_22 : fetch 120 22 = some (.ireturn, 1) := by decide +kernel
theorem zf120_10 : fetch 120 10 = some (.aload_n 0, 1) := by decide +kernel
theorem zf120_11 : fetch 120 11 = some (.getfield 49, 3) := by decide +kernel
theorem zf120_14 : fetch 120 14 = some (.iload_n 1, 1) := by decide +kernel
theorem zf120_15 : fetch 120 15 = some (.invokevirtual 308, 3) := by decide +kernel
theorem zf120_18 : fetch 120 18 = some (.ifCond .ne 5, 3) := by decide +kernel
theorem zf120_23 : fetch 120 23 = some (.aload_n 0, 1) := by decide +kernel
theorem zf120_24 : fetch 120 24 = some (.aload_n 0, 1) := by decide +kernel
theorem zf120_25 : fetch 120 25 = some (.getfield 88, 3) := by decide +kernel
theorem zf120_28 : fetch 120 28 = some (.iload_n 1, 1) := by decide +kernel
theorem zf120_29 : fetch 120 29 = some (.iconst 1, 1) := by decide +kernel
theorem zf120_30 : fetch 120 30 = some (.invokevirtual 318, 3) := by decide +kernel
theorem zf120_33 : fetch 120 33 = some (.ireturn, 1) := by decide +kernel
theorem zf121_0 : fetch 121 0 = some (.aload_n 0, 1) := by decide +kernel
theorem zf121_1 : fetch 121 1 = some (.iload_n 1, 1) := by decide +kernel
theorem zf121_2 : fetch 121 2 = some (.iload_n 2, 1) := by decide +kernel
theorem zf121_3 : fetch 121 3 = some (.iload_n 3, 1) := by decide +kernel
theorem zf121_4 : fetch 121 4 = some (.iload 4, 2) := by decide +kernel
theorem zf121_6 : fetch 121 6 = some (.invokevirtual 329, 3) := by decide +kernel
theorem zf121_9 : fetch 121 9 = some (.ifCond .eq 14, 3) := by decide +kernel
theorem zf121_23 : fetch 121 23 = some (.ldc 223, 2) := by decide +kernel
theorem zf121_25 : fetch 121 25 = some (.ireturn, 1) := by decide +kernel
theorem zf121_12 : fetch 121 12 = some (.iload 5, 2) := by decide +kernel
theorem zf121_14 : fetch 121 14 = some (.ifCond .lt 9, 3) := by decide +kernel
theorem zf121_17 : fetch 121 17 = some (.iload 5, 2) := by decide +kernel
theorem zf121_19 : fetch 121 19 = some (.iconst 1, 1) := by decide +kernel
theorem zf121_20 : fetch 121 20 = some (.if_icmp .le 6, 3) := by decide +kernel
theorem zf121_26 : fetch 121 26 = some (.aload_n 0, 1) := by decide +kernel
theorem zf121_27 : fetch 121 27 = some (.getfield 58, 3) := by decide +kernel
theorem zf121_30 : fetch 121 30 = some (.aload_n 0, 1) := by decide +kernel
theorem zf121_31 : fetch 121 31 = some (.getfield 88, 3) := by decide +kernel
theorem zf121_34 : fetch 121 34 = some (.iload_n 1, 1) := by decide +kernel
theorem zf121_35 : fetch 121 35 = some (.iload_n 2, 1) := by decide +kernel
theorem zf121_36 : fetch 121 36 = some (.iload_n 3, 1) := by decide +kernel
theorem zf121_37 : fetch 121 37 = some (.iload 4, 2) := by decide +kernel
theorem zf121_39 : fetch 121 39 = some (.invokevirtual 279, 3) := by decide +kernel
theorem zf121_42 : fetch 121 42 = some (.istore 6, 2) := by decide +kernel
theorem zf121_44 : fetch 121 44 = some (.iload 5, 2) := by decide +kernel
theorem zf121_46 : fetch 121 46 = some (.iconst 1, 1) := by decide +kernel
theorem zf121_47 : fetch 121 47 = some (.if_icmp .ne 8, 3) := by decide +kernel
theorem zf121_55 : fetch 121 55 = some (.aload_n 0, 1) := by decide +kernel
theorem zf121_56 : fetch 121 56 = some (.getfield 19, 3) := by decide +kernel
theorem zf121_59 : fetch 121 59 = some (.iload 6, 2) := by decide +kernel
theorem zf121_61 : fetch 121 61 = some (.invokevirtual 282, 3) := by decide +kernel
theorem zf121_64 : fetch 121 64 = some (.ireturn, 1) := by decide +kernel
theorem zf121_50 : fetch 121 50 = some (.iload 6, 2) := by decide +kernel
theorem zf121_52 : fetch 121 52 = some (.goto 12, 3) := by decide +kernel
theorem zf123_0 : fetch 123 0 = some (.aload_n 0, 1) := by decide +kernel
theorem zf123_1 : fetch 123 1 = some (.iload_n 1, 1) := by decide +kernel
theorem zf123_2 : fetch 123 2 = some (.iload_n 2, 1) := by decide +kernel
theorem zf123_3 : fetch 123 3 = some (.iload_n 3, 1) := by decide +kernel
theorem zf123_4 : fetch 123 4 = some (.invokevirtual 333, 3) := by decide +kernel
theorem zf123_7 : fetch 123 7 = some (.ifCond .ne 5, 3) := by decide +kernel
theorem zf123_12 : fetch 123 12 = some (.aload_n 0, 1) := by decide +kernel
theorem zf123_13 : fetch 123 13 = some (.getfield 58, 3) := by decide +kernel
theorem zf123_16 : fetch 123 16 = some (.aload_n 0, 1) := by decide +kernel
theorem zf123_17 : fetch 123 17 = some (.getfield 88, 3) := by decide +kernel
theorem zf123_20 : fetch 123 20 = some (.iload_n 1, 1) := by decide +kernel
theorem zf123_21 : fetch 123 21 = some (.iload_n 2, 1) := by decide +kernel
theorem zf123_22 : fetch 123 22 = some (.iload_n 3, 1) := by decide +kernel
theorem zf123_23 : fetch 123 23 = some (.invokevirtual 337, 3) := by decide +kernel
theorem zf123_26 : fetch 123 26 = some (.ireturn, 1) := by decide +kernel
theorem zf123_10 : fetch 123 10 = some (.iconst (-1), 1) := by decide +kernel
theorem zf123_11 : fetch 123 11 = some (.ireturn, 1) := by decide +kernel
theorem zf127_0 : fetch 127 0 = some (.aload_n 0, 1) := by decide +kernel
theorem zf127_1 : fetch 127 1 = some (.iload_n 1, 1) := by decide +kernel
theorem zf127_2 : fetch 127 2 = some (.iload_n 2, 1) := by decide +kernel
theorem zf127_3 : fetch 127 3 = some (.iload_n 3, 1) := by decide +kernel
theorem zf127_4 : fetch 127 4 = some (.invokevirtual 333, 3) := by decide +kernel
theorem zf127_7 : fetch 127 7 = some (.ifCond .eq 14, 3) := by decide +kernel
theorem zf127_21 : fetch 127 21 = some (.iconst (-1), 1) := by decide +kernel
theorem zf127_22 : fetch 127 22 = some (.ireturn, 1) := by decide +kernel
theorem zf127_10 : fetch 127 10 = some (.iload 4, 2) := by decide +kernel
theorem zf127_12 : fetch 127 12 = some (.ifCond .lt 9, 3) := by decide +kernel
theorem zf127_15 : fetch 127 15 = some (.iload 4, 2) := by decide +kernel
theorem zf127_17 : fetch 127 17 = some (.iconst 1, 1) := by decide +kernel
theorem zf127_18 : fetch 127 18 = some (.if_icmp .le 5, 3) := by decide +kernel
theorem zf127_23 : fetch 127 23 = some (.aload_n 0, 1) := by decide +kernel
theorem zf127_24 : fetch 127 24 = some (.getfield 67, 3) := by decide +kernel
theorem zf127_27 : fetch 127 27 = some (.aload_n 0, 1) := by decide +kernel
theorem zf127_28 : fetch 127 28 = some (.getfield 88, 3) := by decide +kernel
theorem zf127_31 : fetch 127 31 = some (.iload_n 1, 1) := by decide +kernel
theorem zf127_32 : fetch 127 32 = some (.iload_n 2, 1) := by decide +kernel
theorem zf127_33 : fetch 127 33 = some (.invokevirtual 341, 3) := by decide +kernel
theorem zf127_36 : fetch 127 36 = some (.aload_n 0, 1) := by decide +kernel
theorem zf127_37 : fetch 127 37 = some (.getfield 67, 3) := by decide +kernel
theorem zf127_40 : fetch 127 40 = some (.getfield 344, 3) := by decide +kernel
theorem zf127_43 : fetch 127 43 = some (.iload_n 3, 1) := by decide +kernel
theorem zf127_44 : fetch 127 44 = some (.iaload, 1) := by decide +kernel
theorem zf127_45 : fetch 127 45 = some (.iconst (-1), 1) := by decide +kernel
theorem zf127_46 : fetch 127 46 = some (.if_icmp .ne 5, 3) := by decide +kernel
theorem zf127_51 : fetch 127 51 = some (.iload 4, 2) := by decide +kernel
theorem zf127_53 : fetch 127 53 = some (.iconst 1, 1) := by decide +kernel
theorem zf127_54 : fetch 127 54 = some (.if_icmp .ne 15, 3) := by decide +kernel
theorem zf127_69 : fetch 127 69 = some (.aload_n 0, 1) := by decide +kernel
theorem zf127_70 : fetch 127 70 = some (.getfield 67, 3) := by decide +kernel
theorem zf127_73 : fetch 127 73 = some (.getfield 350, 3) := by decide +kernel
theorem zf127_76 : fetch 127 76 = some (.iload_n 3, 1) := by decide +kernel
theorem zf127_77 : fetch 127 77 = some (.iaload, 1) := by decide +kernel
theorem zf127_78 : fetch 127 78 = some (.ireturn, 1) := by decide +kernel
theorem zf127_57 : fetch 127 57 = some (.aload_n 0, 1) := by decide +kernel
theorem zf127_58 : fetch 127 58 = some (.getfield 67, 3) := by decide +kernel
theorem zf127_61 : fetch 127 61 = some (.getfield 347, 3) := by decide +kernel
theorem zf127_64 : fetch 127 64 = some (.iload_n 3, 1) := by decide +kernel
theorem zf127_65 : fetch 127 65 = some (.iaload, 1) := by decide +kernel
theorem zf127_66 : fetch 127 66 = some (.goto 12, 3) := by decide +kernel
theorem zf127_49 : fetch 127 49 = some (.iconst (-1), 1) := by decide +kernel
theorem zf127_50 : fetch 127 50 = some (.ireturn, 1) := by decide +kernel
theorem zf130_0 : fetch 130 0 = some (.iload_n 1, 1) := by decide +kernel
theorem zf130_1 : fetch 130 1 = some (.invokestatic 276, 3) := by decide +kernel
theorem zf130_4 : fetch 130 4 = some (.ifCond .eq 23, 3) := by decide +kernel
theorem zf130_27 : fetch 130 27 = some (.iconst (-1), 1) := by decide +kernel
theorem zf130_28 : fetch 130 28 = some (.ireturn, 1) := by decide +kernel
theorem zf130_7 : fetch 130 7 = some (.aload_n 0, 1) := by decide +kernel
theorem zf130_8 : fetch 130 8 = some (.getfield 19, 3) := by decide +kernel
theorem zf130_11 : fetch 130 11 = some (.iload_n 2, 1) := by decide +kernel
theorem zf130_12 : fetch 130 12 = some (.invokevirtual 168, 3) := by decide +kernel
theorem zf130_15 : fetch 130 15 = some (.ifCond .eq 12, 3) := by decide +kernel
theorem zf130_18 : fetch 130 18 = some (.iload_n 3, 1) := by decide +kernel
theorem zf130_19 : fetch 130 19 = some (.ifCond .lt 8, 3) := by decide +kernel
theorem zf130_22 : fetch 130 22 = some (.iload_n 3, 1) := by decide +kernel
theorem zf130_23 : fetch 130 23 = some (.iconst 1, 1) := by decide +kernel
theorem zf130_24 : fetch 130 24 = some (.if_icmp .le 5, 3) := by decide +kernel
theorem zf130_29 : fetch 130 29 = some (.aload_n 0, 1) := by decide +kernel
theorem zf130_30 : fetch 130 30 = some (.getfield 67, 3) := by decide +kernel
theorem zf130_33 : fetch 130 33 = some (.aload_n 0, 1) := by decide +kernel
theorem zf130_34 : fetch 130 34 = some (.getfield 88, 3) := by decide +kernel
theorem zf130_37 : fetch 130 37 = some (.aload_n 0, 1) := by decide +kernel
theorem zf130_38 : fetch 130 38 = some (.getfield 88, 3) := by decide +kernel
theorem zf130_41 : fetch 130 41 = some (.iload_n 1, 1) := by decide +kernel
theorem zf130_42 : fetch 130 42 = some (.aload_n 0, 1) := by decide +kernel
theorem zf130_43 : fetch 130 43 = some (.getfield 19, 3) := by decide +kernel
theorem zf130_46 : fetch 130 46 = some (.getfield 119, 3) := by decide +kernel
theorem zf130_49 : fetch 130 49 = some (.invokevirtual 353, 3) := by decide +kernel
theorem zf130_52 : fetch 130 52 = some (.iload_n 2, 1) := by decide +kernel
theorem zf130_53 : fetch 130 53 = some (.invokevirtual 356, 3) := by decide +kernel
theorem zf130_56 : fetch 130 56 = some (.istore 4, 2) := by decide +kernel
theorem zf130_58 : fetch 130 58 = some (.iload 4, 2) := by decide +kernel
theorem zf130_60 : fetch 130 60 = some (.iconst (-1), 1) := by decide +kernel
theorem zf130_61 : fetch 130 61 = some (.if_icmp .ne 5, 3) := by decide +kernel
theorem zf130_66 : fetch 130 66 = some (.iload_n 3, 1) := by decide +kernel
theorem zf130_67 : fetch 130 67 = some (.iconst 1, 1) := by decide +kernel
theorem zf130_68 : fetch 130 68 = some (.if_icmp .ne 11, 3) := by decide +kernel
theorem zf130_79 : fetch 130 79 = some (.iload 4, 2) := by decide +kernel
theorem zf130_81 : fetch 130 81 = some (.bipush 100, 2) := by decide +kernel
theorem zf130_83 : fetch 130 83 = some (.idiv, 1) := by decide +kernel
theorem zf130_84 : fetch 130 84 = some (.ireturn, 1) := by decide +kernel
theorem zf130_71 : fetch 130 71 = some (.iload 4, 2) := by decide +kernel
theorem zf130_73 : fetch 130 73 = some (.bipush 100, 2) := by decide +kernel
theorem zf130_75 : fetch 130 75 = some (.irem, 1) := by decide +kernel
theorem zf130_76 : fetch 130 76 = some (.goto 8, 3) := by decide +kernel
theorem zf130_64 : fetch 130 64 = some (.iconst (-1), 1) := by decide +kernel
theorem zf130_65 : fetch 130 65 = some (.ireturn, 1) := by decide +kernel
theorem zf135_0 : fetch 135 0 = some (.aload_n 0, 1) := by decide +kernel
theorem zf135_1 : fetch 135 1 = some (.iload_n 1, 1) := by decide +kernel
theorem zf135_2 : fetch 135 2 = some (.iload_n 2, 1) := by decide +kernel
theorem zf135_3 : fetch 135 3 = some (.iload_n 3, 1) := by decide +kernel
theorem zf135_4 : fetch 135 4 = some (.invokevirtual 333, 3) := by decide +kernel
theorem zf135_7 : fetch 135 7 = some (.ifCond .eq 13, 3) := by decide +kernel
theorem zf135_20 : fetch 135 20 = some (.iconst (-1), 1) := by decide +kernel
theorem zf135_21 : fetch 135 21 = some (.ireturn, 1) := by decide +kernel
theorem zf135_10 : fetch 135 10 = some (.aload_n 0, 1) := by decide +kernel
theorem zf135_11 : fetch 135 11 = some (.iload_n 1, 1) := by decide +kernel
theorem zf135_12 : fetch 135 12 = some (.iload_n 2, 1) := by decide +kernel
theorem zf135_13 : fetch 135 13 = some (.iload_n 3, 1) := by decide +kernel
theorem zf135_14 : fetch 135 14 = some (.invokevirtual 360, 3) := by decide +kernel
theorem zf135_17 : fetch 135 17 = some (.goto 4, 3) := by decide +kernel
theorem zf137_0 : fetch 137 0 = some (.aload_n 0, 1) := by decide +kernel
theorem zf137_1 : fetch 137 1 = some (.getfield 19, 3) := by decide +kernel
theorem zf137_4 : fetch 137 4 = some (.iload_n 1, 1) := by decide +kernel
theorem zf137_5 : fetch 137 5 = some (.invokevirtual 168, 3) := by decide +kernel
theorem zf137_8 : fetch 137 8 = some (.ifCond .eq 14, 3) := by decide +kernel
theorem zf137_22 : fetch 137 22 = some (.iconst (-1), 1) := by decide +kernel
theorem zf137_23 : fetch 137 23 = some (.ireturn, 1) := by decide +kernel
theorem zf137_11 : fetch 137 11 = some (.aload_n 0, 1) := by decide +kernel
theorem zf137_12 : fetch 137 12 = some (.getfield 19, 3) := by decide +kernel
theorem zf137_15 : fetch 137 15 = some (.iload_n 2, 1) := by decide +kernel
theorem zf137_16 : fetch 137 16 = some (.invokevirtual 168, 3) := by decide +kernel
theorem zf137_19 : fetch 137 19 = some (.ifCond .ne 5, 3) := by decide +kernel
theorem zf137_24 : fetch 137 24 = some (.iconst (-1), 1) := by decide +kernel
theorem zf137_25 : fetch 137 25 = some (.istore_n 3, 1) := by decide +kernel
theorem zf137_26 : fetch 137 26 = some (.iconst (-1), 1) := by decide +kernel
theorem zf137_27 : fetch 137 27 = some (.istore 4, 2) := by decide +kernel
theorem zf137_29 : fetch 137 29 = some (.iconst 0, 1) := by decide +kernel
theorem zf137_30 : fetch 137 30 = some (.istore 5, 2) := by decide +kernel
theorem zf138_0 : fetch 138 0 = some (.aload_n 0, 1) := by decide +kernel
theorem zf138_1 : fetch 138 1 = some (.getfield 19, 3) := by decide +kernel
theorem zf138_4 : fetch 138 4 = some (.invokevirtual 159, 3) := by decide +kernel
theorem zf138_7 : fetch 138 7 = some (.ifCond .ne 5, 3) := by decide +kernel
theorem zf138_12 : fetch 138 12 = some (.aload_n 0, 1) := by decide +kernel
theorem zf138_13 : fetch 138 13 = some (.getfield 67, 3) := by decide +kernel
theorem zf138_16 : fetch 138 16 = some (.aload_n 0, 1) := by decide +kernel
theorem zf138_17 : fetch 138 17 = some (.getfield 88, 3) := by decide +kernel
theorem zf138_20 : fetch 138 20 = some (.invokevirtual 367, 3) := by decide +kernel
theorem zf138_23 : fetch 138 23 = some (.aload_n 0, 1) := by decide +kernel
theorem zf138_24 : fetch 138 24 = some (.getfield 67, 3) := by decide +kernel
theorem zf138_27 : fetch 138 27 = some (.iconst 0, 1) := by decide +kernel
theorem zf138_28 : fetch 138 28 = some (.iconst (-1), 1) := by decide +kernel
theorem zf138_29 : fetch 138 29 = some (.invokevirtual 370, 3) := by decide +kernel
theorem zf138_32 : fetch 138 32 = some (.istore_n 1, 1) := by decide +kernel
theorem zf138_33 : fetch 138 33 = some (.iconst 0, 1) := by decide +kernel
theorem zf138_34 : fetch 138 34 = some (.istore_n 2, 1) := by decide +kernel
theorem zf138_35 : fetch 138 35 = some (.iconst 1, 1) := by decide +kernel
theorem zf138_36 : fetch 138 36 = some (.istore_n 3, 1) := by decide +kernel
theorem zf138_10 : fetch 138 10 = some (.iconst (-1), 1) := by decide +kernel
theorem zf138_11 : fetch 138 11 = some (.ireturn, 1) := by decide +kernel
theorem zf141_0 : fetch 141 0 = some (.aload_n 0, 1) := by decide +kernel
theorem zf141_1 : fetch 141 1 = some (.getfield 19, 3) := by decide +kernel
theorem zf141_4 : fetch 141 4 = some (.iload_n 1, 1) := by decide +kernel
theorem zf141_5 : fetch 141 5 = some (.invokevirtual 168, 3) := by decide +kernel
theorem zf141_8 : fetch 141 8 = some (.ifCond .ne 5, 3) := by decide +kernel
theorem zf141_13 : fetch 141 13 = some (.aload_n 0, 1) := by decide +kernel
theorem zf141_14 : fetch 141 14 = some (.getfield 67, 3) := by decide +kernel
theorem zf141_17 : fetch 141 17 = some (.aload_n 0, 1) := by decide +kernel
theorem zf141_18 : fetch 141 18 = some (.getfield 88, 3) := by decide +kernel
theorem zf141_21 : fetch 141 21 = some (.invokevirtual 367, 3) := by decide +kernel
theorem zf141_24 : fetch 141 24 = some (.aload_n 0, 1) := by decide +kernel
theorem zf141_25 : fetch 141 25 = some (.getfield 67, 3) := by decide +kernel
theorem zf141_28 : fetch 141 28 = some (.iload_n 1, 1) := by decide +kernel
theorem zf141_29 : fetch 141 29 = some (.iconst (-1), 1) := by decide +kernel
theorem zf141_30 : fetch 141 30 = some (.invokevirtual 370, 3) := by decide +kernel
theorem zf141_33 : fetch 141 33 = some (.ireturn, 1) := by decide +kernel
theorem zf141_11 : fetch 141 11 = some (.iconst (-1), 1) := by decide +kernel
theorem zf141_12 : fetch 141 12 = some (.ireturn, 1) := by decide +kernel
theorem zf142_0 : fetch 142 0 = some (.aload_n 0, 1) := by decide +kernel
theorem zf142_1 : fetch 142 1 = some (.iload_n 1, 1) := by decide +kernel
theorem zf142_2 : fetch 142 2 = some (.iload_n 2, 1) := by decide +kernel
theorem zf142_3 : fetch 142 3 = some (.iload_n 3, 1) := by decide +kernel
theorem zf142_4 : fetch 142 4 = some (.iload 4, 2) := by decide +kernel
theorem zf142_6 : fetch 142 6 = some (.invokevirtual 329, 3) := by decide +kernel
theorem zf142_9 : fetch 142 9 = some (.ifCond .eq 15, 3) := by decide +kernel
theorem zf142_24 : fetch 142 24 = some (.iconst (-1), 1) := by decide +kernel
theorem zf142_25 : fetch 142 25 = some (.ireturn, 1) := by decide +kernel
theorem zf142_12 : fetch 142 12 = some (.iload 5, 2) := by decide +kernel
theorem zf142_14 : fetch 142 14 = some (.ifCond .lt 10, 3) := by decide +kernel
theorem zf142_17 : fetch 142 17 = some (.iload 5, 2) := by decide +kernel
theorem zf142_19 : fetch 142 19 = some (.bipush 100, 2) := by decide +kernel
theorem zf142_21 : fetch 142 21 = some (.if_icmp .le 5, 3) := by decide +kernel
theorem zf142_26 : fetch 142 26 = some (.aload_n 0, 1) := by decide +kernel
theorem zf142_27 : fetch 142 27 = some (.iconst 0, 1) := by decide +kernel
theorem zf142_28 : fetch 142 28 = some (.iload_n 1, 1) := by decide +kernel
theorem zf142_29 : fetch 142 29 = some (.iload_n 2, 1) := by decide +kernel
theorem zf142_30 : fetch 142 30 = some (.iload_n 3, 1) := by decide +kernel
theorem zf142_31 : fetch 142 31 = some (.iload 4, 2) := by decide +kernel
theorem zf142_33 : fetch 142 33 = some (.invokevirtual 373, 3) := by decide +kernel
theorem zf142_36 : fetch 142 36 = some (.ifCond .eq 11, 3) := by decide +kernel
theorem zf142_47 : fetch 142 47 = some (.iconst 0, 1) := by decide +kernel
theorem zf142_39 : fetch 142 39 = some (.bipush 100, 2) := by decide +kernel
theorem zf142_41 : fetch 142 41 = some (.iload 5, 2) := by decide +kernel
theorem zf142_43 : fetch 142 43 = some (.isub, 1) := by decide +kernel
theorem zf142_44 : fetch 142 44 = some (.goto 4, 3) := by decide +kernel
theorem zf144_0 : fetch 144 0 = some (.aload_n 0, 1) := by decide +kernel
theorem zf144_1 : fetch 144 1 = some (.iload_n 1, 1) := by decide +kernel
theorem zf144_2 : fetch 144 2 = some (.iload_n 2, 1) := by decide +kernel
theorem zf144_3 : fetch 144 3 = some (.invokevirtual 387, 3) := by decide +kernel
theorem zf144_6 : fetch 144 6 = some (.ifCond .eq 33, 3) := by decide +kernel
theorem zf144_39 : fetch 144 39 = some (.iconst (-1), 1) := by decide +kernel
theorem zf144_40 : fetch 144 40 = some (.ireturn, 1) := by decide +kernel
theorem zf144_9 : fetch 144 9 = some (.aload_n 0, 1) := by decide +kernel
theorem zf144_10 : fetch 144 10 = some (.getfield 88, 3) := by decide +kernel
theorem zf144_13 : fetch 144 13 = some (.getfield 162, 3) := by decide +kernel
theorem zf144_16 : fetch 144 16 = some (.bipush 16, 2) := by decide +kernel
theorem zf144_18 : fetch 144 18 = some (.iload_n 1, 1) := by decide +kernel
theorem zf144_19 : fetch 144 19 = some (.iadd, 1) := by decide +kernel
theorem zf144_20 : fetch 144 20 = some (.iaload, 1) := by decide +kernel
theorem zf144_21 : fetch 144 21 = some (.ifCond .ne 18, 3) := by decide +kernel
theorem zf144_24 : fetch 144 24 = some (.aload_n 0, 1) := by decide +kernel
theorem zf144_25 : fetch 144 25 = some (.getfield 88, 3) := by decide +kernel
theorem zf144_28 : fetch 144 28 = some (.getfield 162, 3) := by decide +kernel
theorem zf144_31 : fetch 144 31 = some (.bipush 16, 2) := by decide +kernel
theorem zf144_33 : fetch 144 33 = some (.iload_n 2, 1) := by decide +kernel
theorem zf144_34 : fetch 144 34 = some (.iadd, 1) := by decide +kernel
theorem zf144_35 : fetch 144 35 = some (.iaload, 1) := by decide +kernel
theorem zf144_36 : fetch 144 36 = some (.ifCond .eq 5, 3) := by decide +kernel
theorem zf144_41 : fetch 144 41 = some (.aload_n 0, 1) := by decide +kernel
theorem zf144_42 : fetch 144 42 = some (.getfield 88, 3) := by decide +kernel
theorem zf144_45 : fetch 144 45 = some (.getfield 162, 3) := by decide +kernel
theorem zf144_48 : fetch 144 48 = some (.bipush 6, 2) := by decide +kernel
theorem zf144_50 : fetch 144 50 = some (.iload_n 1, 1) := by decide +kernel
theorem zf144_51 : fetch 144 51 = some (.iadd, 1) := by decide +kernel
theorem zf144_52 : fetch 144 52 = some (.iaload, 1) := by decide +kernel
theorem zf144_53 : fetch 144 53 = some (.istore_n 3, 1) := by decide +kernel
theorem zf144_54 : fetch 144 54 = some (.aload_n 0, 1) := by decide +kernel
theorem zf144_55 : fetch 144 55 = some (.getfield 88, 3) := by decide +kernel
theorem zf144_58 : fetch 144 58 = some (.getfield 162, 3) := by decide +kernel
theorem zf144_61 : fetch 144 61 = some (.bipush 6, 2) := by decide +kernel
theorem zf144_63 : fetch 144 63 = some (.iload_n 2, 1) := by decide +kernel
theorem zf144_64 : fetch 144 64 = some (.iadd, 1) := by decide +kernel
theorem zf144_65 : fetch 144 65 = some (.iaload, 1) := by decide +kernel
theorem zf144_66 : fetch 144 66 = some (.istore 4, 2) := by decide +kernel
theorem zf144_68 : fetch 144 68 = some (.aload_n 0, 1) := by decide +kernel
theorem zf144_69 : fetch 144 69 = some (.getfield 58, 3) := by decide +kernel
theorem zf144_72 : fetch 144 72 = some (.aload_n 0, 1) := by decide +kernel
theorem zf144_73 : fetch 144 73 = some (.getfield 88, 3) := by decide +kernel
theorem zf144_76 : fetch 144 76 = some (.iload_n 1, 1) := by decide +kernel
theorem zf144_77 : fetch 144 77 = some (.iload_n 3, 1) := by decide +kernel
theorem zf144_78 : fetch 144 78 = some (.iload 4, 2) := by decide +kernel
theorem zf144_80 : fetch 144 80 = some (.invokevirtual 337, 3) := by decide +kernel
theorem zf144_83 : fetch 144 83 = some (.istore 5, 2) := by decide +kernel
theorem zf144_85 : fetch 144 85 = some (.aload_n 0, 1) := by decide +kernel
theorem zf144_86 : fetch 144 86 = some (.getfield 58, 3) := by decide +kernel
theorem zf144_89 : fetch 144 89 = some (.aload_n 0, 1) := by decide +kernel
theorem zf144_90 : fetch 144 90 = some (.getfield 88, 3) := by decide +kernel
theorem zf144_93 : fetch 144 93 = some (.iload_n 2, 1) := by decide +kernel
theorem zf144_94 : fetch 144 94 = some (.iload 4, 2) := by decide +kernel
theorem zf144_96 : fetch 144 96 = some (.iload_n 3, 1) := by decide +kernel
theorem zf144_97 : fetch 144 97 = some (.invokevirtual 337, 3) := by decide +kernel
theorem zf144_100 : fetch 144 100 = some (.istore 6, 2) := by decide +kernel
theorem zf144_102 : fetch 144 102 = some (.iload 5, 2) := by decide +kernel
theorem zf144_104 : fetch 144 104 = some (.iconst (-1), 1) := by decide +kernel
theorem zf144_105 : fetch 144 105 = some (.if_icmp .eq 9, 3) := by decide +kernel
theorem zf144_114 : fetch 144 114 = some (.iconst (-1), 1) := by decide +kernel
theorem zf144_115 : fetch 144 115 = some (.ireturn, 1) := by decide +kernel
theorem zf144_108 : fetch 144 108 = some (.iload 6, 2) := by decide +kernel
theorem zf144_110 : fetch 144 110 = some (.iconst (-1), 1) := by decide +kernel
theorem zf144_111 : fetch 144 111 = some (.if_icmp .ne 5, 3) := by decide +kernel
theorem zf144_116 : fetch 144 116 = some (.aload_n 0, 1) := by decide +kernel
theorem zf144_117 : fetch 144 117 = some (.getfield 19, 3) := by decide +kernel
theorem zf144_120 : fetch 144 120 = some (.iload_n 1, 1) := by decide +kernel
theorem zf144_121 : fetch 144 121 = some (.invokevirtual 188, 3) := by decide +kernel
theorem zf144_124 : fetch 144 124 = some (.iload 5, 2) := by decide +kernel
theorem zf144_126 : fetch 144 126 = some (.iadd, 1) := by decide +kernel
theorem zf144_127 : fetch 144 127 = some (.istore 7, 2) := by decide +kernel
theorem zf144_129 : fetch 144 129 = some (.aload_n 0, 1) := by decide +kernel
theorem zf144_130 : fetch 144 130 = some (.getfield 19, 3) := by decide +kernel
theorem zf144_133 : fetch 144 133 = some (.iload_n 2, 1) := by decide +kernel
theorem zf144_134 : fetch 144 134 = some (.invokevirtual 188, 3) := by decide +kernel
theorem zf144_137 : fetch 144 137 = some (.iload 6, 2) := by decide +kernel
theorem zf144_139 : fetch 144 139 = some (.iadd, 1) := by decide +kernel
theorem zf144_140 : fetch 144 140 = some (.istore 8, 2) := by decide +kernel
theorem zf144_142 : fetch 144 142 = some (.iload 7, 2) := by decide +kernel
theorem zf144_144 : fetch 144 144 = some (.iload 8, 2) := by decide +kernel
theorem zf144_146 : fetch 144 146 = some (.if_icmp .ne 5, 3) := by decide +kernel
theorem zf144_151 : fetch 144 151 = some (.iload 7, 2) := by decide +kernel
theorem zf144_153 : fetch 144 153 = some (.iload 8, 2) := by decide +kernel
theorem zf144_155 : fetch 144 155 = some (.if_icmp .le 7, 3) := by decide +kernel
theorem zf144_162 : fetch 144 162 = some (.iconst 2, 1) := by decide +kernel
theorem zf144_163 : fetch 144 163 = some (.ireturn, 1) := by decide +kernel
theorem zf144_158 : fetch 144 158 = some (.iconst 1, 1) := by decide +kernel
theorem zf144_159 : fetch 144 159 = some (.goto 4, 3) := by decide +kernel
theorem zf144_149 : fetch 144 149 = some (.iconst 0, 1) := by decide +kernel
theorem zf144_150 : fetch 144 150 = some (.ireturn, 1) := by decide +kernel
theorem zf146_0 : fetch 146 0 = some (.aload_n 0, 1) := by decide +kernel
theorem zf146_1 : fetch 146 1 = some (.iload_n 1, 1) := by decide +kernel
theorem zf146_2 : fetch 146 2 = some (.iload_n 2, 1) := by decide +kernel
theorem zf146_3 : fetch 146 3 = some (.iload_n 3, 1) := by decide +kernel
theorem zf146_4 : fetch 146 4 = some (.iload 4, 2) := by decide +kernel
theorem zf146_6 : fetch 146 6 = some (.invokevirtual 329, 3) := by decide +kernel
theorem zf146_9 : fetch 146 9 = some (.ifCond .eq 27, 3) := by decide +kernel
theorem zf146_36 : fetch 146 36 = some (.iconst (-1), 1) := by decide +kernel
theorem zf146_37 : fetch 146 37 = some (.ireturn, 1) := by decide +kernel
theorem zf146_12 : fetch 146 12 = some (.iload 5, 2) := by decide +kernel
theorem zf146_14 : fetch 146 14 = some (.bipush (-60), 2) := by decide +kernel
theorem zf146_16 : fetch 146 16 = some (.if_icmp .lt 20, 3) := by decide +kernel
theorem zf146_19 : fetch 146 19 = some (.iload 5, 2) := by decide +kernel
theorem zf146_21 : fetch 146 21 = some (.bipush 100, 2) := by decide +kernel
theorem zf146_23 : fetch 146 23 = some (.if_icmp .gt 13, 3) := by decide +kernel
theorem zf146_26 : fetch 146 26 = some (.aload_n 0, 1) := by decide +kernel
theorem zf146_27 : fetch 146 27 = some (.getfield 74, 3) := by decide +kernel
theorem zf146_30 : fetch 146 30 = some (.invokevirtual 390, 3) := by decide +kernel
theorem zf146_33 : fetch 146 33 = some (.ifCond .ne 5, 3) := by decide +kernel
theorem zf146_38 : fetch 146 38 = some (.aload_n 0, 1) := by decide +kernel
theorem zf146_39 : fetch 146 39 = some (.getfield 74, 3) := by decide +kernel
theorem zf146_42 : fetch 146 42 = some (.iload_n 1, 1) := by decide +kernel
theorem zf146_43 : fetch 146 43 = some (.iload_n 2, 1) := by decide +kernel
theorem zf146_44 : fetch 146 44 = some (.iload_n 3, 1) := by decide +kernel
theorem zf146_45 : fetch 146 45 = some (.iload 4, 2) := by decide +kernel
theorem zf146_47 : fetch 146 47 = some (.iload 5, 2) := by decide +kernel
theorem zf146_49 : fetch 146 49 = some (.invokevirtual 393, 3) := by decide +kernel
theorem zf146_52 : fetch 146 52 = some (.aload_n 0, 1) := by decide +kernel
theorem zf146_53 : fetch 146 53 = some (.getfield 74, 3) := by decide +kernel
theorem zf146_56 : fetch 146 56 = some (.getfield 213, 3) := by decide +kernel
theorem zf146_59 : fetch 146 59 = some (.ireturn, 1) := by decide +kernel
theorem zf149_0 : fetch 149 0 = some (.aload_n 0, 1) := by decide +kernel
theorem zf149_1 : fetch 149 1 = some (.getfield 19, 3) := by decide +kernel
theorem zf149_4 : fetch 149 4 = some (.invokevirtual 159, 3) := by decide +kernel
theorem zf149_7 : fetch 149 7 = some (.ifCond .ne 5, 3) := by decide +kernel
theorem zf149_12 : fetch 149 12 = some (.aload_n 0, 1) := by decide +kernel
theorem zf149_13 : fetch 149 13 = some (.getfield 74, 3) := by decide +kernel
theorem zf149_16 : fetch 149 16 = some (.invokevirtual 397, 3) := by decide +kernel
theorem zf149_19 : fetch 149 19 = some (.iload_n 1, 1) := by decide +kernel
theorem zf149_20 : fetch 149 20 = some (.iconst (-1), 1) := by decide +kernel
theorem zf149_21 : fetch 149 21 = some (.if_icmp .ne 11, 3) := by decide +kernel
theorem zf149_32 : fetch 149 32 = some (.iload_n 1, 1) := by decide +kernel
theorem zf149_33 : fetch 149 33 = some (.ifCond .lt 26, 3) := by decide +kernel
theorem zf149_59 : fetch 149 59 = some (.iconst (-1), 1) := by decide +kernel
theorem zf149_60 : fetch 149 60 = some (.ireturn, 1) := by decide +kernel
theorem zf149_36 : fetch 149 36 = some (.iload_n 1, 1) := by decide +kernel
theorem zf149_37 : fetch 149 37 = some (.aload_n 0, 1) := by decide +kernel
theorem zf149_38 : fetch 149 38 = some (.getfield 74, 3) := by decide +kernel
theorem zf149_41 : fetch 149 41 = some (.getfield 400, 3) := by decide +kernel
theorem zf149_44 : fetch 149 44 = some (.if_icmp .ge 15, 3) := by decide +kernel
theorem zf149_47 : fetch 149 47 = some (.aload_n 0, 1) := by decide +kernel
theorem zf149_48 : fetch 149 48 = some (.getfield 74, 3) := by decide +kernel
theorem zf149_51 : fetch 149 51 = some (.getfield 403, 3) := by decide +kernel
theorem zf149_54 : fetch 149 54 = some (.iload_n 1, 1) := by decide +kernel
theorem zf149_55 : fetch 149 55 = some (.iaload, 1) := by decide +kernel
theorem zf149_56 : fetch 149 56 = some (.goto 4, 3) := by decide +kernel
theorem zf149_24 : fetch 149 24 = some (.aload_n 0, 1) := by decide +kernel
theorem zf149_25 : fetch 149 25 = some (.getfield 74, 3) := by decide +kernel
theorem zf149_28 : fetch 149 28 = some (.getfield 400, 3) := by decide +kernel
theorem zf149_31 : fetch 149 31 = some (.ireturn, 1) := by decide +kernel
theorem zf149_10 : fetch 149 10 = some (.iconst (-1), 1) := by decide +kernel
theorem zf149_11 : fetch 149 11 = some (.ireturn, 1) := by decide +kernel
theorem zf153_0 : fetch 153 0 = some (.aload_n 0, 1) := by decide +kernel
theorem zf153_1 : fetch 153 1 = some (.getfield 19, 3) := by decide +kernel
theorem zf153_4 : fetch 153 4 = some (.iload_n 1, 1) := by decide +kernel
theorem zf153_5 : fetch 153 5 = some (.invokevirtual 178, 3) := by decide +kernel
theorem zf153_8 : fetch 153 8 = some (.ifCond .eq 14, 3) := by decide +kernel
theorem zf153_22 : fetch 153 22 = some (.iconst (-1), 1) := by decide +kernel
theorem zf153_23 : fetch 153 23 = some (.ireturn, 1) := by decide +kernel
theorem zf153_11 : fetch 153 11 = some (.aload_n 0, 1) := by decide +kernel
theorem zf153_12 : fetch 153 12 = some (.getfield 19, 3) := by decide +kernel
theorem zf153_15 : fetch 153 15 = some (.iload_n 2, 1) := by decide +kernel
theorem zf153_16 : fetch 153 16 = some (.invokevirtual 168, 3) := by decide +kernel
theorem zf153_19 : fetch 153 19 = some (.ifCond .ne 5, 3) := by decide +kernel
theorem zf153_24 : fetch 153 24 = some (.aload_n 0, 1) := by decide +kernel
theorem zf153_25 : fetch 153 25 = some (.getfield 74, 3) := by decide +kernel
theorem zf153_28 : fetch 153 28 = some (.invokevirtual 397, 3) := by decide +kernel
theorem zf153_31 : fetch 153 31 = some (.aload_n 0, 1) := by decide +kernel
theorem zf153_32 : fetch 153 32 = some (.getfield 74, 3) := by decide +kernel
theorem zf153_35 : fetch 153 35 = some (.iload_n 1, 1) := by decide +kernel
theorem zf153_36 : fetch 153 36 = some (.iload_n 2, 1) := by decide +kernel
theorem zf153_37 : fetch 153 37 = some (.invokevirtual 406, 3) := by decide +kernel
theorem zf153_40 : fetch 153 40 = some (.ireturn, 1) := by decide +kernel
theorem zf156_0 : fetch 156 0 = some (.aload_n 0, 1) := by decide +kernel
theorem zf156_1 : fetch 156 1 = some (.getfield 19, 3) := by decide +kernel
theorem zf156_4 : fetch 156 4 = some (.iload_n 1, 1) := by decide +kernel
theorem zf156_5 : fetch 156 5 = some (.invokevirtual 168, 3) := by decide +kernel
theorem zf156_8 : fetch 156 8 = some (.ifCond .eq 13, 3) := by decide +kernel
theorem zf156_21 : fetch 156 21 = some (.iconst (-1), 1) := by decide +kernel
theorem zf156_22 : fetch 156 22 = some (.ireturn, 1) := by decide +kernel
theorem zf156_11 : fetch 156 11 = some (.aload_n 0, 1) := by decide +kernel
theorem zf156_12 : fetch 156 12 = some (.getfield 74, 3) := by decide +kernel
theorem zf156_15 : fetch 156 15 = some (.invokevirtual 409, 3) := by decide +kernel
theorem zf156_18 : fetch 156 18 = some (.ifCond .ne 5, 3) := by decide +kernel
theorem zf156_23 : fetch 156 23 = some (.aload_n 0, 1) := by decide +kernel
theorem zf156_24 : fetch 156 24 = some (.getfield 74, 3) := by decide +kernel
theorem zf156_27 : fetch 156 27 = some (.iload_n 1, 1) := by decide +kernel
theorem zf156_28 : fetch 156 28 = some (.iload_n 2, 1) := by decide +kernel
theorem zf156_29 : fetch 156 29 = some (.invokevirtual 412, 3) := by decide +kernel
theorem zf156_32 : fetch 156 32 = some (.aload_n 0, 1) := by decide +kernel
theorem zf156_33 : fetch 156 33 = some (.getfield 74, 3) := by decide +kernel
theorem zf156_36 : fetch 156 36 = some (.getfield 216, 3) := by decide +kernel
theorem zf156_39 : fetch 156 39 = some (.ireturn, 1) := by decide +kernel
theorem zf159_0 : fetch 159 0 = some (.aload_n 0, 1) := by decide +kernel
theorem zf159_1 : fetch 159 1 = some (.getfield 19, 3) := by decide +kernel
theorem zf159_4 : fetch 159 4 = some (.iload_n 1, 1) := by decide +kernel
theorem zf159_5 : fetch 159 5 = some (.invokevirtual 168, 3) := by decide +kernel
theorem zf159_8 : fetch 159 8 = some (.ifCond .eq 14, 3) := by decide +kernel
theorem zf159_22 : fetch 159 22 = some (.iconst (-1), 1) := by decide +kernel
theorem zf159_23 : fetch 159 23 = some (.ireturn, 1) := by decide +kernel
theorem zf159_11 : fetch 159 11 = some (.aload_n 0, 1) := by decide +kernel
theorem zf159_12 : fetch 159 12 = some (.getfield 74, 3) := by decide +kernel
theorem zf159_15 : fetch 159 15 = some (.iload_n 1, 1) := by decide +kernel
theorem zf159_16 : fetch 159 16 = some (.invokevirtual 416, 3) := by decide +kernel
theorem zf159_19 : fetch 159 19 = some (.goto 4, 3) := by decide +kernel
theorem zf162_0 : fetch 162 0 = some (.iconst (-1), 1) := by decide +kernel
theorem zf162_1 : fetch 162 1 = some (.istore_n 1, 1) := by decide +kernel
theorem zf162_2 : fetch 162 2 = some (.iconst (-1), 1) := by decide +kernel
theorem zf162_3 : fetch 162 3 = some (.istore_n 2, 1) := by decide +kernel
theorem zf162_4 : fetch 162 4 = some (.iconst 0, 1) := by decide +kernel
theorem zf162_5 : fetch 162 5 = some (.istore_n 3, 1) := by decide +kernel
theorem zf164_0 : fetch 164 0 = some (.aload_n 0, 1) := by decide +kernel
theorem zf164_1 : fetch 164 1 = some (.iload_n 1, 1) := by decide +kernel
theorem zf164_2 : fetch 164 2 = some (.iload_n 2, 1) := by decide +kernel
theorem zf164_3 : fetch 164 3 = some (.invokevirtual 387, 3) := by decide +kernel
theorem zf164_6 : fetch 164 6 = some (.ifCond .eq 37, 3) := by decide +kernel
theorem zf164_43 : fetch 164 43 = some (.ldc 223, 2) := by decide +kernel
theorem zf164_45 : fetch 164 45 = some (.ireturn, 1) := by decide +kernel
theorem zf164_9 : fetch 164 9 = some (.iload_n 3, 1) := by decide +kernel
theorem zf164_10 : fetch 164 10 = some (.invokestatic 422, 3) := by decide +kernel
theorem zf164_13 : fetch 164 13 = some (.ifCond .eq 30, 3) := by decide +kernel
theorem zf164_16 : fetch 164 16 = some (.iload 4, 2) := by decide +kernel
theorem zf164_18 : fetch 164 18 = some (.invokestatic 228, 3) := by decide +kernel
theorem zf164_21 : fetch 164 21 = some (.ifCond .eq 22, 3) := by decide +kernel
theorem zf164_24 : fetch 164 24 = some (.iload 5, 2) := by decide +kernel
theorem zf164_26 : fetch 164 26 = some (.invokestatic 228, 3) := by decide +kernel
theorem zf164_29 : fetch 164 29 = some (.ifCond .eq 14, 3) := by decide +kernel
theorem zf164_32 : fetch 164 32 = some (.iload 6, 2) := by decide +kernel
theorem zf164_34 : fetch 164 34 = some (.ifCond .lt 9, 3) := by decide +kernel
theorem zf164_37 : fetch 164 37 = some (.iload 6, 2) := by decide +kernel
theorem zf164_39 : fetch 164 39 = some (.iconst 1, 1) := by decide +kernel
theorem zf164_40 : fetch 164 40 = some (.if_icmp .le 6, 3) := by decide +kernel
theorem zf164_46 : fetch 164 46 = some (.iload 6, 2) := by decide +kernel
theorem zf164_48 : fetch 164 48 = some (.ifCond .ne 16, 3) := by decide +kernel
theorem zf164_64 : fetch 164 64 = some (.aload_n 0, 1) := by decide +kernel
theorem zf164_65 : fetch 164 65 = some (.iload_n 2, 1) := by decide +kernel
theorem zf164_66 : fetch 164 66 = some (.iload_n 3, 1) := by decide +kernel
theorem zf164_67 : fetch 164 67 = some (.iload 5, 2) := by decide +kernel
theorem zf164_69 : fetch 164 69 = some (.iload 4, 2) := by decide +kernel
theorem zf164_71 : fetch 164 71 = some (.invokevirtual 425, 3) := by decide +kernel
theorem zf164_74 : fetch 164 74 = some (.ireturn, 1) := by decide +kernel
theorem zf164_51 : fetch 164 51 = some (.aload_n 0, 1) := by decide +kernel
theorem zf164_52 : fetch 164 52 = some (.iload_n 1, 1) := by decide +kernel
theorem zf164_53 : fetch 164 53 = some (.iload_n 3, 1) := by decide +kernel
theorem zf164_54 : fetch 164 54 = some (.iload 4, 2) := by decide +kernel
theorem zf164_56 : fetch 164 56 = some (.iload 5, 2) := by decide +kernel
theorem zf164_58 : fetch 164 58 = some (.invokevirtual 425, 3) := by decide +kernel
theorem zf164_61 : fetch 164 61 = some (.goto 13, 3) := by decide +kernel
theorem zf167_0 : fetch 167 0 = some (.aload_n 0, 1) := by decide +kernel
theorem zf167_1 : fetch 167 1 = some (.iload_n 1, 1) := by decide +kernel
theorem zf167_2 : fetch 167 2 = some (.iload_n 2, 1) := by decide +kernel
theorem zf167_3 : fetch 167 3 = some (.invokevirtual 387, 3) := by decide +kernel
theorem zf167_6 : fetch 167 6 = some (.ifCond .eq 10, 3) := by decide +kernel
theorem zf167_16 : fetch 167 16 = some (.iconst (-1), 1) := by decide +kernel
theorem zf167_17 : fetch 167 17 = some (.ireturn, 1) := by decide +kernel
theorem zf167_9 : fetch 167 9 = some (.iload_n 3, 1) := by decide +kernel
theorem zf167_10 : fetch 167 10 = some (.invokestatic 422, 3) := by decide +kernel
theorem zf167_13 : fetch 167 13 = some (.ifCond .ne 5, 3) := by decide +kernel
theorem zf167_18 : fetch 167 18 = some (.iconst 0, 1) := by decide +kernel
theorem zf167_19 : fetch 167 19 = some (.istore 5, 2) := by decide +kernel
theorem zf167_21 : fetch 167 21 = some (.iconst 0, 1) := by decide +kernel
theorem zf167_22 : fetch 167 22 = some (.istore 6, 2) := by decide +kernel
theorem zf168_0 : fetch 168 0 = some (.aload_n 0, 1) := by decide +kernel
theorem zf168_1 : fetch 168 1 = some (.getfield 19, 3) := by decide +kernel
theorem zf168_4 : fetch 168 4 = some (.invokevirtual 159, 3) := by decide +kernel
theorem zf168_7 : fetch 168 7 = some (.ifCond .eq 24, 3) := by decide +kernel
theorem zf168_31 : fetch 168 31 = some (.iconst (-1), 1) := by decide +kernel
theorem zf168_32 : fetch 168 32 = some (.ireturn, 1) := by decide +kernel
theorem zf168_10 : fetch 168 10 = some (.iload_n 1, 1) := by decide +kernel
theorem zf168_11 : fetch 168 11 = some (.invokestatic 268, 3) := by decide +kernel
theorem zf168_14 : fetch 168 14 = some (.ifCond .eq 17, 3) := by decide +kernel
theorem zf168_17 : fetch 168 17 = some (.aload_n 0, 1) := by decide +kernel
theorem zf168_18 : fetch 168 18 = some (.getfield 88, 3) := by decide +kernel
theorem zf168_21 : fetch 168 21 = some (.getfield 162, 3) := by decide +kernel
theorem zf168_24 : fetch 168 24 = some (.iconst 0, 1) := by decide +kernel
theorem zf168_25 : fetch 168 25 = some (.iaload, 1) := by decide +kernel
theorem zf168_26 : fetch 168 26 = some (.iload_n 1, 1) := by decide +kernel
theorem zf168_27 : fetch 168 27 = some (.idiv, 1) := by decide +kernel
theorem zf168_28 : fetch 168 28 = some (.goto 4, 3) := by decide +kernel
theorem zf169_0 : fetch 169 0 = some (.aload_n 0, 1) := by decide +kernel
theorem zf169_1 : fetch 169 1 = some (.getfield 19, 3) := by decide +kernel
theorem zf169_4 : fetch 169 4 = some (.invokevirtual 159, 3) := by decide +kernel
theorem zf169_7 : fetch 169 7 = some (.ifCond .eq 13, 3) := by decide +kernel
theorem zf169_20 : fetch 169 20 = some (.iconst (-1), 1) := by decide +kernel
theorem zf169_21 : fetch 169 21 = some (.ireturn, 1) := by decide +kernel
theorem zf169_10 : fetch 169 10 = some (.iload_n 1, 1) := by decide +kernel
theorem zf169_11 : fetch 169 11 = some (.ifCond .lt 9, 3) := by decide +kernel
theorem zf169_14 : fetch 169 14 = some (.iload_n 1, 1) := by decide +kernel
theorem zf169_15 : fetch 169 15 = some (.bipush 9, 2) := by decide +kernel
theorem zf169_17 : fetch 169 17 = some (.if_icmp .le 5, 3) := by decide +kernel
theorem zf169_22 : fetch 169 22 = some (.bipush 9, 2) := by decide +kernel
theorem zf169_24 : fetch 169 24 = some (.istore_n 2, 1) := by decide +kernel
theorem zf169_25 : fetch 169 25 = some (.iconst 0, 1) := by decide +kernel
theorem zf169_26 : fetch 169 26 = some (.istore_n 3, 1) := by decide +kernel
theorem zf170_0 : fetch 170 0 = some (.aload_n 0, 1) := by decide +kernel
theorem zf170_1 : fetch 170 1 = some (.getfield 19, 3) := by decide +kernel
theorem zf170_4 : fetch 170 4 = some (.invokevirtual 159, 3) := by decide +kernel
theorem zf170_7 : fetch 170 7 = some (.ifCond .eq 12, 3) := by decide +kernel
theorem zf170_19 : fetch 170 19 = some (.iconst (-1), 1) := by decide +kernel
theorem zf170_20 : fetch 170 20 = some (.ireturn, 1) := by decide +kernel
theorem zf170_10 : fetch 170 10 = some (.iload_n 1, 1) := by decide +kernel
theorem zf170_11 : fetch 170 11 = some (.ifCond .lt 8, 3) := by decide +kernel
theorem zf170_14 : fetch 170 14 = some (.iload_n 1, 1) := by decide +kernel
theorem zf170_15 : fetch 170 15 = some (.iconst 1, 1) := by decide +kernel
theorem zf170_16 : fetch 170 16 = some (.if_icmp .le 5, 3) := by decide +kernel
theorem zf170_21 : fetch 170 21 = some (.iload_n 1, 1) := by decide +kernel
theorem zf170_22 : fetch 170 22 = some (.ifCond .ne 13, 3) := by decide +kernel
theorem zf170_35 : fetch 170 35 = some (.aload_n 0, 1) := by decide +kernel
theorem zf170_36 : fetch 170 36 = some (.getfield 19, 3) := by decide +kernel
theorem zf170_39 : fetch 170 39 = some (.iload_n 2, 1) := by decide +kernel
theorem zf170_40 : fetch 170 40 = some (.invokevirtual 437, 3) := by decide +kernel
theorem zf170_43 : fetch 170 43 = some (.ireturn, 1) := by decide +kernel
theorem zf170_25 : fetch 170 25 = some (.aload_n 0, 1) := by decide +kernel
theorem zf170_26 : fetch 170 26 = some (.getfield 19, 3) := by decide +kernel
theorem zf170_29 : fetch 170 29 = some (.invokevirtual 434, 3) := by decide +kernel
theorem zf170_32 : fetch 170 32 = some (.goto 11, 3) := by decide +kernel
theorem zf173_0 : fetch 173 0 = some (.aload_n 0, 1) := by decide +kernel
theorem zf173_1 : fetch 173 1 = some (.getfield 19, 3) := by decide +kernel
theorem zf173_4 : fetch 173 4 = some (.invokevirtual 159, 3) := by decide +kernel
theorem zf173_7 : fetch 173 7 = some (.ifCond .ne 5, 3) := by decide +kernel
theorem zf173_12 : fetch 173 12 = some (.iconst 0, 1) := by decide +kernel
theorem zf173_13 : fetch 173 13 = some (.istore_n 1, 1) := by decide +kernel
theorem zf173_14 : fetch 173 14 = some (.iconst 0, 1) := by decide +kernel
theorem zf173_15 : fetch 173 15 = some (.istore_n 2, 1) := by decide +kernel
theorem zf173_10 : fetch 173 10 = some (.iconst (-1), 1) := by decide +kernel
theorem zf173_11 : fetch 173 11 = some (.ireturn, 1) := by decide +kernel
theorem zf174_0 : fetch 174 0 = some (.aload_n 0, 1) := by decide +kernel
theorem zf174_1 : fetch 174 1 = some (.getfield 19, 3) := by decide +kernel
theorem zf174_4 : fetch 174 4 = some (.iload_n 1, 1) := by decide +kernel
theorem zf174_5 : fetch 174 5 = some (.invokevirtual 168, 3) := by decide +kernel
theorem zf174_8 : fetch 174 8 = some (.ifCond .ne 5, 3) := by decide +kernel
theorem zf174_13 : fetch 174 13 = some (.iconst 0, 1) := by decide +kernel
theorem zf174_14 : fetch 174 14 = some (.istore_n 2, 1) := by decide +kernel
theorem zf174_15 : fetch 174 15 = some (.iconst 0, 1) := by decide +kernel
theorem zf174_16 : fetch 174 16 = some (.istore_n 3, 1) := by decide +kernel
theorem zf174_11 : fetch 174 11 = some (.iconst (-1), 1) := by decide +kernel
theorem zf174_12 : fetch 174 12 = some (.ireturn, 1) := by decide +kernel
theorem zf175_0 : fetch 175 0 = some (.aload_n 0, 1) := by decide +kernel
theorem zf175_1 : fetch 175 1 = some (.getfield 19, 3) := by decide +kernel
theorem zf175_4 : fetch 175 4 = some (.invokevirtual 159, 3) := by decide +kernel
theorem zf175_7 : fetch 175 7 = some (.ifCond .eq 28, 3) := by decide +kernel
theorem zf175_35 : fetch 175 35 = some (.iconst (-1), 1) := by decide +kernel
theorem zf175_36 : fetch 175 36 = some (.ireturn, 1) := by decide +kernel
theorem zf175_10 : fetch 175 10 = some (.iload_n 1, 1) := by decide +kernel
theorem zf175_11 : fetch 175 11 = some (.invokestatic 276, 3) := by decide +kernel
theorem zf175_14 : fetch 175 14 = some (.ifCond .eq 21, 3) := by decide +kernel
theorem zf175_17 : fetch 175 17 = some (.aload_n 0, 1) := by decide +kernel
theorem zf175_18 : fetch 175 18 = some (.getfield 88, 3) := by decide +kernel
theorem zf175_21 : fetch 175 21 = some (.iload_n 1, 1) := by decide +kernel
theorem zf175_22 : fetch 175 22 = some (.aload_n 0, 1) := by decide +kernel
theorem zf175_23 : fetch 175 23 = some (.getfield 19, 3) := by decide +kernel
theorem zf175_26 : fetch 175 26 = some (.getfield 119, 3) := by decide +kernel
theorem zf175_29 : fetch 175 29 = some (.invokevirtual 353, 3) := by decide +kernel
theorem zf175_32 : fetch 175 32 = some (.goto 4, 3) := by decide +kernel
theorem zf176_0 : fetch 176 0 = some (.aload_n 0, 1) := by decide +kernel
theorem zf176_1 : fetch 176 1 = some (.getfield 19, 3) := by decide +kernel
theorem zf176_4 : fetch 176 4 = some (.iload_n 1, 1) := by decide +kernel
theorem zf176_5 : fetch 176 5 = some (.invokevirtual 178, 3) := by decide +kernel
theorem zf176_8 : fetch 176 8 = some (.ifCond .ne 13, 3) := by decide +kernel
theorem zf176_21 : fetch 176 21 = some (.iload_n 2, 1) := by decide +kernel
theorem zf176_22 : fetch 176 22 = some (.tableswitch 91 0 4 #[34, 43, 52, 65, 78], 34) := by decide +kernel
theorem zf176_56 : fetch 176 56 = some (.aload_n 0, 1) := by decide +kernel
theorem zf176_57 : fetch 176 57 = some (.getfield 19, 3) := by decide +kernel
theorem zf176_60 : fetch 176 60 = some (.iload_n 1, 1) := by decide +kernel
theorem zf176_61 : fetch 176 61 = some (.invokevirtual 188, 3) := by decide +kernel
theorem zf176_64 : fetch 176 64 = some (.ireturn, 1) := by decide +kernel
theorem zf176_65 : fetch 176 65 = some (.aload_n 0, 1) := by decide +kernel
theorem zf176_66 : fetch 176 66 = some (.getfield 19, 3) := by decide +kernel
theorem zf176_69 : fetch 176 69 = some (.iload_n 1, 1) := by decide +kernel
theorem zf176_70 : fetch 176 70 = some (.invokevirtual 191, 3) := by decide +kernel
theorem zf176_73 : fetch 176 73 = some (.ireturn, 1) := by decide +kernel
theorem zf176_74 : fetch 176 74 = some (.aload_n 0, 1) := by decide +kernel
theorem zf176_75 : fetch 176 75 = some (.getfield 88, 3) := by decide +kernel
theorem zf176_78 : fetch 176 78 = some (.getfield 162, 3) := by decide +kernel
theorem zf176_81 : fetch 176 81 = some (.bipush 6, 2) := by decide +kernel
theorem zf176_83 : fetch 176 83 = some (.iload_n 1, 1) := by decide +kernel
theorem zf176_84 : fetch 176 84 = some (.iadd, 1) := by decide +kernel
theorem zf176_85 : fetch 176 85 = some (.iaload, 1) := by decide +kernel
theorem zf176_86 : fetch 176 86 = some (.ireturn, 1) := by decide +kernel
theorem zf176_87 : fetch 176 87 = some (.aload_n 0, 1) := by decide +kernel
theorem zf176_88 : fetch 176 88 = some (.getfield 88, 3) := by decide +kernel
theorem zf176_91 : fetch 176 91 = some (.getfield 162, 3) := by decide +kernel
theorem zf176_94 : fetch 176 94 = some (.bipush 11, 2) := by decide +kernel
theorem zf176_96 : fetch 176 96 = some (.iload_n 1, 1) := by decide +kernel
theorem zf176_97 : fetch 176 97 = some (.iadd, 1) := by decide +kernel
theorem zf176_98 : fetch 176 98 = some (.iaload, 1) := by decide +kernel
theorem zf176_99 : fetch 176 99 = some (.ireturn, 1) := by decide +kernel
theorem zf176_100 : fetch 176 100 = some (.aload_n 0, 1) := by decide +kernel
theorem zf176_101 : fetch 176 101 = some (.getfield 88, 3) := by decide +kernel
theorem zf176_104 : fetch 176 104 = some (.getfield 162, 3) := by decide +kernel
theorem zf176_107 : fetch 176 107 = some (.bipush 16, 2) := by decide +kernel
theorem zf176_109 : fetch 176 109 = some (.iload_n 1, 1) := by decide +kernel
theorem zf176_110 : fetch 176 110 = some (.iadd, 1) := by decide +kernel
theorem zf176_111 : fetch 176 111 = some (.iaload, 1) := by decide +kernel
theorem zf176_112 : fetch 176 112 = some (.ireturn, 1) := by decide +kernel
theorem zf176_113 : fetch 176 113 = some (.new 181, 3) := by decide +kernel
theorem zf176_11 : fetch 176 11 = some (.new 181, 3) := by decide +kernel
theorem zf177_0 : fetch 177 0 = some (.aload_n 0, 1) := by decide +kernel
theorem zf177_1 : fetch 177 1 = some (.getfield 96, 3) := by decide +kernel
theorem zf177_4 : fetch 177 4 = some (.ireturn, 1) := by decide +kernel
theorem zf178_0 : fetch 178 0 = some (.aload_n 0, 1) := by decide +kernel
theorem zf178_1 : fetch 178 1 = some (.iconst 0, 1) := by decide +kernel
theorem zf178_2 : fetch 178 2 = some (.putfield 96, 3) := by decide +kernel
theorem zf178_5 : fetch 178 5 = some (.aload_n 0, 1) := by decide +kernel
theorem zf178_6 : fetch 178 6 = some (.getfield 109, 3) := by decide +kernel
theorem zf178_9 : fetch 178 9 = some (.iload_n 1, 1) := by decide +kernel
theorem zf178_10 : fetch 178 10 = some (.invokestatic 111, 3) := by decide +kernel
theorem zf178_13 : fetch 178 13 = some (.iadd, 1) := by decide +kernel
theorem zf178_14 : fetch 178 14 = some (.iload_n 2, 1) := by decide +kernel
theorem zf178_15 : fetch 178 15 = some (.invokestatic 111, 3) := by decide +kernel
theorem zf178_18 : fetch 178 18 = some (.iadd, 1) := by decide +kernel
theorem zf178_19 : fetch 178 19 = some (.iload_n 3, 1) := by decide +kernel
theorem zf178_20 : fetch 178 20 = some (.invokestatic 111, 3) := by decide +kernel
theorem zf178_23 : fetch 178 23 = some (.iadd, 1) := by decide +kernel
theorem zf178_24 : fetch 178 24 = some (.iload 4, 2) := by decide +kernel
theorem zf178_26 : fetch 178 26 = some (.invokestatic 111, 3) := by decide +kernel
theorem zf178_29 : fetch 178 29 = some (.iadd, 1) := by decide +kernel
theorem zf178_30 : fetch 178 30 = some (.iload 5, 2) := by decide +kernel
theorem zf178_32 : fetch 178 32 = some (.invokestatic 111, 3) := by decide +kernel
theorem zf178_35 : fetch 178 35 = some (.iadd, 1) := by decide +kernel
theorem zf178_36 : fetch 178 36 = some (.sipush 240, 3) := by decide +kernel
theorem zf178_39 : fetch 178 39 = some (.if_icmp .le 5, 3) := by decide +kernel
theorem zf178_44 : fetch 178 44 = some (.aload_n 0, 1) := by decide +kernel
theorem zf178_45 : fetch 178 45 = some (.iload_n 1, 1) := by decide +kernel
theorem zf178_46 : fetch 178 46 = some (.invokevirtual 115, 3) := by decide +kernel
theorem zf178_49 : fetch 178 49 = some (.aload_n 0, 1) := by decide +kernel
theorem zf178_50 : fetch 178 50 = some (.iload_n 2, 1) := by decide +kernel
theorem zf178_51 : fetch 178 51 = some (.invokevirtual 115, 3) := by decide +kernel
theorem zf178_54 : fetch 178 54 = some (.aload_n 0, 1) := by decide +kernel
theorem zf178_55 : fetch 178 55 = some (.iload_n 3, 1) := by decide +kernel
theorem zf178_56 : fetch 178 56 = some (.invokevirtual 115, 3) := by decide +kernel
theorem zf178_59 : fetch 178 59 = some (.aload_n 0, 1) := by decide +kernel
theorem zf178_60 : fetch 178 60 = some (.iload 4, 2) := by decide +kernel
theorem zf178_62 : fetch 178 62 = some (.invokevirtual 115, 3) := by decide +kernel
theorem zf178_65 : fetch 178 65 = some (.aload_n 0, 1) := by decide +kernel
theorem zf178_66 : fetch 178 66 = some (.iload 5, 2) := by decide +kernel
theorem zf178_68 : fetch 178 68 = some (.invokevirtual 115, 3) := by decide +kernel
theorem zf178_71 : fetch 178 71 = some (.aload_n 0, 1) := by decide +kernel
theorem zf178_72 : fetch 178 72 = some (.getfield 109, 3) := by decide +kernel
theorem zf178_75 : fetch 178 75 = some (.ireturn, 1) := by decide +kernel
theorem zf178_42 : fetch 178 42 = some (.iconst (-1), 1) := by decide +kernel
theorem zf178_43 : fetch 178 43 = some (.ireturn, 1) := by decide +kernel
theorem zf181_0 : fetch 181 0 = some (.aload_n 0, 1) := by decide +kernel
theorem zf181_1 : fetch 181 1 = some (.iconst 0, 1) := by decide +kernel
theorem zf181_2 : fetch 181 2 = some (.putfield 96, 3) := by decide +kernel
theorem zf181_5 : fetch 181 5 = some (.iload_n 1, 1) := by decide +kernel
theorem zf181_6 : fetch 181 6 = some (.ifCond .lt 11, 3) := by decide +kernel
theorem zf181_17 : fetch 181 17 = some (.iconst 0, 1) := by decide +kernel
theorem zf181_18 : fetch 181 18 = some (.ireturn, 1) := by decide +kernel
theorem zf181_9 : fetch 181 9 = some (.iload_n 1, 1) := by decide +kernel
theorem zf181_10 : fetch 181 10 = some (.aload_n 0, 1) := by decide +kernel
theorem zf181_11 : fetch 181 11 = some (.getfield 109, 3) := by decide +kernel
theorem zf181_14 : fetch 181 14 = some (.if_icmp .le 5, 3) := by decide +kernel
theorem zf181_19 : fetch 181 19 = some (.aload_n 0, 1) := by decide +kernel
theorem zf181_20 : fetch 181 20 = some (.iload_n 1, 1) := by decide +kernel
theorem zf181_21 : fetch 181 21 = some (.putfield 109, 3) := by decide +kernel
theorem zf181_24 : fetch 181 24 = some (.iconst 1, 1) := by decide +kernel
theorem zf181_25 : fetch 181 25 = some (.ireturn, 1) := by decide +kernel
theorem zf182_0 : fetch 182 0 = some (.aload_n 0, 1) := by decide +kernel
theorem zf182_1 : fetch 182 1 = some (.iconst 0, 1) := by decide +kernel
theorem zf182_2 : fetch 182 2 = some (.putfield 96, 3) := by decide +kernel
theorem zf182_5 : fetch 182 5 = some (.iload_n 1, 1) := by decide +kernel
theorem zf182_6 : fetch 182 6 = some (.i2l, 1) := by decide +kernel
theorem zf182_7 : fetch 182 7 = some (.lconst 0, 1) := by decide +kernel
theorem zf182_8 : fetch 182 8 = some (.ldc2_w 275, 3) := by decide +kernel
theorem zf182_11 : fetch 182 11 = some (.invokestatic 217, 3) := by decide +kernel
theorem zf182_14 : fetch 182 14 = some (.ifCond .ne 6, 3) := by decide +kernel
theorem zf182_20 : fetch 182 20 = some (.iload_n 1, 1) := by decide +kernel
theorem zf182_21 : fetch 182 21 = some (.ifCond .ne 7, 3) := by decide +kernel
theorem zf182_24 : fetch 182 24 = some (.aload_n 0, 1) := by decide +kernel
theorem zf182_25 : fetch 182 25 = some (.invokevirtual 277, 3) := by decide +kernel
theorem zf182_17 : fetch 182 17 = some (.bipush (-2), 2) := by decide +kernel
theorem zf182_19 : fetch 182 19 = some (.ireturn, 1) := by decide +kernel
theorem zf216_0 : fetch 216 0 = some (.aload_n 0, 1) := by decide +kernel
theorem zf216_1 : fetch 216 1 = some (.iconst 0, 1) := by decide +kernel
theorem zf216_2 : fetch 216 2 = some (.putfield 96, 3) := by decide +kernel
theorem zf216_5 : fetch 216 5 = some (.iload_n 1, 1) := by decide +kernel
theorem zf216_6 : fetch 216 6 = some (.i2l, 1) := by decide +kernel
theorem zf216_7 : fetch 216 7 = some (.lconst 0, 1) := by decide +kernel
theorem zf216_8 : fetch 216 8 = some (.ldc2_w 275, 3) := by decide +kernel
theorem zf216_11 : fetch 216 11 = some (.invokestatic 217, 3) := by decide +kernel
theorem zf216_14 : fetch 216 14 = some (.ifCond .eq 38, 3) := by decide +kernel
theorem zf216_52 : fetch 216 52 = some (.iconst (-1), 1) := by decide +kernel
theorem zf216_53 : fetch 216 53 = some (.ireturn, 1) := by decide +kernel
theorem zf216_17 : fetch 216 17 = some (.iload_n 1, 1) := by decide +kernel
theorem zf216_18 : fetch 216 18 = some (.iconst 1, 1) := by decide +kernel
theorem zf216_19 : fetch 216 19 = some (.if_icmp .ne 11, 3) := by decide +kernel
theorem zf216_30 : fetch 216 30 = some (.iload_n 1, 1) := by decide +kernel
theorem zf216_31 : fetch 216 31 = some (.iconst 2, 1) := by decide +kernel
theorem zf216_32 : fetch 216 32 = some (.if_icmp .ne 11, 3) := by decide +kernel
theorem zf216_35 : fetch 216 35 = some (.aload_n 0, 1) := by decide +kernel
theorem zf216_36 : fetch 216 36 = some (.getfield 289, 3) := by decide +kernel
theorem zf216_39 : fetch 216 39 = some (.iconst 4, 1) := by decide +kernel
theorem zf216_40 : fetch 216 40 = some (.if_icmp .eq 12, 3) := by decide +kernel
theorem zf216_22 : fetch 216 22 = some (.aload_n 0, 1) := by decide +kernel
theorem zf216_23 : fetch 216 23 = some (.getfield 286, 3) := by decide +kernel
theorem zf216_26 : fetch 216 26 = some (.iconst 4, 1) := by decide +kernel
theorem zf216_27 : fetch 216 27 = some (.if_icmp .eq 25, 3) := by decide +kernel
theorem zf218_0 : fetch 218 0 = some (.aload_n 0, 1) := by decide +kernel
theorem zf218_1 : fetch 218 1 = some (.iconst 0, 1) := by decide +kernel
theorem zf218_2 : fetch 218 2 = some (.putfield 96, 3) := by decide +kernel
theorem zf218_5 : fetch 218 5 = some (.aload_n 0, 1) := by decide +kernel
theorem zf218_6 : fetch 218 6 = some (.getfield 294, 3) := by decide +kernel
theorem zf218_9 : fetch 218 9 = some (.ifCond .eq 15, 3) := by decide +kernel
theorem zf218_24 : fetch 218 24 = some (.iconst (-1), 1) := by decide +kernel
theorem zf218_25 : fetch 218 25 = some (.ireturn, 1) := by decide +kernel
theorem zf218_12 : fetch 218 12 = some (.iload_n 1, 1) := by decide +kernel
theorem zf218_13 : fetch 218 13 = some (.i2l, 1) := by decide +kernel
theorem zf218_14 : fetch 218 14 = some (.lconst 0, 1) := by decide +kernel
theorem zf218_15 : fetch 218 15 = some (.ldc2_w 360, 3) := by decide +kernel
theorem zf218_18 : fetch 218 18 = some (.invokestatic 217, 3) := by decide +kernel
theorem zf218_21 : fetch 218 21 = some (.ifCond .ne 5, 3) := by decide +kernel
theorem zf218_26 : fetch 218 26 = some (.iload_n 1, 1) := by decide +kernel
theorem zf218_27 : fetch 218 27 = some (.tableswitch 60 0 3 #[29, 37, 45, 53], 29) := by decide +kernel
theorem zf218_56 : fetch 218 56 = some (.aload_n 0, 1) := by decide +kernel
theorem zf218_57 : fetch 218 57 = some (.getfield 61, 3) := by decide +kernel
theorem zf218_60 : fetch 218 60 = some (.bipush 32, 2) := by decide +kernel
theorem zf218_62 : fetch 218 62 = some (.iaload, 1) := by decide +kernel
theorem zf218_63 : fetch 218 63 = some (.ireturn, 1) := by decide +kernel
theorem zf218_64 : fetch 218 64 = some (.aload_n 0, 1) := by decide +kernel
theorem zf218_65 : fetch 218 65 = some (.getfield 61, 3) := by decide +kernel
theorem zf218_68 : fetch 218 68 = some (.bipush 33, 2) := by decide +kernel
theorem zf218_70 : fetch 218 70 = some (.iaload, 1) := by decide +kernel
theorem zf218_71 : fetch 218 71 = some (.ireturn, 1) := by decide +kernel
theorem zf218_72 : fetch 218 72 = some (.aload_n 0, 1) := by decide +kernel
theorem zf218_73 : fetch 218 73 = some (.getfield 61, 3) := by decide +kernel
theorem zf218_76 : fetch 218 76 = some (.bipush 31, 2) := by decide +kernel
theorem zf218_78 : fetch 218 78 = some (.iaload, 1) := by decide +kernel
theorem zf218_79 : fetch 218 79 = some (.ireturn, 1) := by decide +kernel
theorem zf218_80 : fetch 218 80 = some (.aload_n 0, 1) := by decide +kernel
theorem zf218_81 : fetch 218 81 = some (.getfield 37, 3) := by decide +kernel
theorem zf218_84 : fetch 218 84 = some (.iconst 3, 1) := by decide +kernel
theorem zf218_85 : fetch 218 85 = some (.iaload, 1) := by decide +kernel
theorem zf218_86 : fetch 218 86 = some (.ireturn, 1) := by decide +kernel
theorem zf218_87 : fetch 218 87 = some (.aload_n 0, 1) := by decide +kernel
theorem zf218_88 : fetch 218 88 = some (.getfield 61, 3) := by decide +kernel
theorem zf218_91 : fetch 218 91 = some (.bipush 34, 2) := by decide +kernel
theorem zf218_93 : fetch 218 93 = some (.iaload, 1) := by decide +kernel
theorem zf218_94 : fetch 218 94 = some (.ireturn, 1) := by decide +kernel
theorem zf219_0 : fetch 219 0 = some (.aload_n 0, 1) := by decide +kernel
theorem zf219_1 : fetch 219 1 = some (.iconst 0, 1) := by decide +kernel
theorem zf219_2 : fetch 219 2 = some (.putfield 96, 3) := by decide +kernel
theorem zf219_5 : fetch 219 5 = some (.aload_n 0, 1) := by decide +kernel
theorem zf219_6 : fetch 219 6 = some (.iload_n 1, 1) := by decide +kernel
theorem zf219_7 : fetch 219 7 = some (.invokevirtual 362, 3) := by decide +kernel
theorem zf219_10 : fetch 219 10 = some (.ifCond .eq 15, 3) := by decide +kernel
theorem zf219_25 : fetch 219 25 = some (.iconst (-1), 1) := by decide +kernel
theorem zf219_26 : fetch 219 26 = some (.ireturn, 1) := by decide +kernel
theorem zf219_13 : fetch 219 13 = some (.iload_n 2, 1) := by decide +kernel
theorem zf219_14 : fetch 219 14 = some (.i2l, 1) := by decide +kernel
theorem zf219_15 : fetch 219 15 = some (.lconst 0, 1) := by decide +kernel
theorem zf219_16 : fetch 219 16 = some (.ldc2_w 365, 3) := by decide +kernel
theorem zf219_19 : fetch 219 19 = some (.invokestatic 217, 3) := by decide +kernel
theorem zf219_22 : fetch 219 22 = some (.ifCond .ne 5, 3) := by decide +kernel
theorem zf219_27 : fetch 219 27 = some (.iload_n 2, 1) := by decide +kernel
theorem zf219_28 : fetch 219 28 = some (.iconst 2, 1) := by decide +kernel
theorem zf219_29 : fetch 219 29 = some (.if_icmp .ne 14, 3) := by decide +kernel
theorem zf219_43 : fetch 219 43 = some (.iload_n 2, 1) := by decide +kernel
theorem zf219_44 : fetch 219 44 = some (.iconst 3, 1) := by decide +kernel
theorem zf219_45 : fetch 219 45 = some (.if_icmp .ne 15, 3) := by decide +kernel
theorem zf219_60 : fetch 219 60 = some (.aload_n 0, 1) := by decide +kernel
theorem zf219_61 : fetch 219 61 = some (.getfield 43, 3) := by decide +kernel
theorem zf219_64 : fetch 219 64 = some (.iconst 3, 1) := by decide +kernel
theorem zf219_65 : fetch 219 65 = some (.iload_n 1, 1) := by decide +kernel
theorem zf219_66 : fetch 219 66 = some (.imul, 1) := by decide +kernel
theorem zf219_67 : fetch 219 67 = some (.iload_n 2, 1) := by decide +kernel
theorem zf219_68 : fetch 219 68 = some (.iadd, 1) := by decide +kernel
theorem zf219_69 : fetch 219 69 = some (.iaload, 1) := by decide +kernel
theorem zf219_70 : fetch 219 70 = some (.ireturn, 1) := by decide +kernel
theorem zf219_48 : fetch 219 48 = some (.aload_n 0, 1) := by decide +kernel
theorem zf219_49 : fetch 219 49 = some (.getfield 61, 3) := by decide +kernel
theorem zf219_52 : fetch 219 52 = some (.bipush 8, 2) := by decide +kernel
theorem zf219_54 : fetch 219 54 = some (.iload_n 1, 1) := by decide +kernel
theorem zf219_55 : fetch 219 55 = some (.iadd, 1) := by decide +kernel
theorem zf219_56 : fetch 219 56 = some (.iaload, 1) := by decide +kernel
theorem zf219_57 : fetch 219 57 = some (.goto 13, 3) := by decide +kernel
theorem zf219_32 : fetch 219 32 = some (.aload_n 0, 1) := by decide +kernel
theorem zf219_33 : fetch 219 33 = some (.getfield 61, 3) := by decide +kernel
theorem zf219_36 : fetch 219 36 = some (.iconst 0, 1) := by decide +kernel
theorem zf219_37 : fetch 219 37 = some (.iload_n 1, 1) := by decide +kernel
theorem zf219_38 : fetch 219 38 = some (.iadd, 1) := by decide +kernel
theorem zf219_39 : fetch 219 39 = some (.iaload, 1) := by decide +kernel
theorem zf219_40 : fetch 219 40 = some (.goto 30, 3) := by decide +kernel
theorem zf221_0 : fetch 221 0 = some (.aload_n 0, 1) := by decide +kernel
theorem zf221_1 : fetch 221 1 = some (.aload_n 0, 1) := by decide +kernel
theorem zf221_2 : fetch 221 2 = some (.iload_n 1, 1) := by decide +kernel
theorem zf221_3 : fetch 221 3 = some (.invokevirtual 339, 3) := by decide +kernel
theorem zf221_6 : fetch 221 6 = some (.ifCond .eq 19, 3) := by decide +kernel
theorem zf221_25 : fetch 221 25 = some (.iconst 1, 1) := by decide +kernel
theorem zf221_9 : fetch 221 9 = some (.iload_n 2, 1) := by decide +kernel
theorem zf221_10 : fetch 221 10 = some (.i2l, 1) := by decide +kernel
theorem zf221_11 : fetch 221 11 = some (.lconst 0, 1) := by decide +kernel
theorem zf221_12 : fetch 221 12 = some (.ldc2_w 360, 3) := by decide +kernel
theorem zf221_15 : fetch 221 15 = some (.invokestatic 217, 3) := by decide +kernel
theorem zf221_18 : fetch 221 18 = some (.ifCond .eq 7, 3) := by decide +kernel
theorem zf221_21 : fetch 221 21 = some (.iconst 0, 1) := by decide +kernel
theorem zf221_22 : fetch 221 22 = some (.goto 4, 3) := by decide +kernel
theorem zf224_0 : fetch 224 0 = some (.aload_n 0, 1) := by decide +kernel
theorem zf224_1 : fetch 224 1 = some (.iconst 0, 1) := by decide +kernel
theorem zf224_2 : fetch 224 2 = some (.putfield 96, 3) := by decide +kernel
theorem zf224_5 : fetch 224 5 = some (.iload_n 1, 1) := by decide +kernel
theorem zf224_6 : fetch 224 6 = some (.iconst (-1), 1) := by decide +kernel
theorem zf224_7 : fetch 224 7 = some (.if_icmp .eq 21, 3) := by decide +kernel
theorem zf224_28 : fetch 224 28 = some (.aload_n 0, 1) := by decide +kernel
theorem zf224_29 : fetch 224 29 = some (.iload_n 1, 1) := by decide +kernel
theorem zf224_30 : fetch 224 30 = some (.putfield 67, 3) := by decide +kernel
theorem zf224_33 : fetch 224 33 = some (.iconst 1, 1) := by decide +kernel
theorem zf224_34 : fetch 224 34 = some (.ireturn, 1) := by decide +kernel
theorem zf224_10 : fetch 224 10 = some (.iload_n 1, 1) := by decide +kernel
theorem zf224_11 : fetch 224 11 = some (.i2l, 1) := by decide +kernel
theorem zf224_12 : fetch 224 12 = some (.lconst 0, 1) := by decide +kernel
theorem zf224_13 : fetch 224 13 = some (.aload_n 0, 1) := by decide +kernel
theorem zf224_14 : fetch 224 14 = some (.getfield 286, 3) := by decide +kernel
theorem zf224_17 : fetch 224 17 = some (.iconst 1, 1) := by decide +kernel
theorem zf224_18 : fetch 224 18 = some (.isub, 1) := by decide +kernel
theorem zf224_19 : fetch 224 19 = some (.i2l, 1) := by decide +kernel
theorem zf224_20 : fetch 224 20 = some (.invokestatic 217, 3) := by decide +kernel
theorem zf224_23 : fetch 224 23 = some (.ifCond .ne 5, 3) := by decide +kernel
theorem zf224_26 : fetch 224 26 = some (.iconst 0, 1) := by decide +kernel
theorem zf224_27 : fetch 224 27 = some (.ireturn, 1) := by decide +kernel
theorem zf225_0 : fetch 225 0 = some (.aload_n 0, 1) := by decide +kernel
theorem zf225_1 : fetch 225 1 = some (.iconst 0, 1) := by decide +kernel
theorem zf225_2 : fetch 225 2 = some (.putfield 96, 3) := by decide +kernel
theorem zf225_5 : fetch 225 5 = some (.iload_n 1, 1) := by decide +kernel
theorem zf225_6 : fetch 225 6 = some (.i2l, 1) := by decide +kernel
theorem zf225_7 : fetch 225 7 = some (.lconst 0, 1) := by decide +kernel
theorem zf225_8 : fetch 225 8 = some (.ldc2_w 367, 3) := by decide +kernel
theorem zf225_11 : fetch 225 11 = some (.invokestatic 217, 3) := by decide +kernel
theorem zf225_14 : fetch 225 14 = some (.ifCond .eq 11, 3) := by decide +kernel
theorem zf225_25 : fetch 225 25 = some (.iconst 0, 1) := by decide +kernel
theorem zf225_26 : fetch 225 26 = some (.ireturn, 1) := by decide +kernel
theorem zf225_17 : fetch 225 17 = some (.iload_n 1, 1) := by decide +kernel
theorem zf225_18 : fetch 225 18 = some (.aload_n 0, 1) := by decide +kernel
theorem zf225_19 : fetch 225 19 = some (.getfield 369, 3) := by decide +kernel
theorem zf225_22 : fetch 225 22 = some (.if_icmp .ne 5, 3) := by decide +kernel
theorem zf225_27 : fetch 225 27 = some (.aload_n 0, 1) := by decide +kernel
theorem zf225_28 : fetch 225 28 = some (.iload_n 1, 1) := by decide +kernel
theorem zf225_29 : fetch 225 29 = some (.putfield 369, 3) := by decide +kernel
theorem zf225_32 : fetch 225 32 = some (.iconst 1, 1) := by decide +kernel
theorem zf225_33 : fetch 225 33 = some (.ireturn, 1) := by decide +kernel
theorem zf226_0 : fetch 226 0 = some (.aload_n 0, 1) := by decide +kernel
theorem zf226_1 : fetch 226 1 = some (.iconst 0, 1) := by decide +kernel
theorem zf226_2 : fetch 226 2 = some (.putfield 96, 3) := by decide +kernel
theorem zf226_5 : fetch 226 5 = some (.aload_n 0, 1) := by decide +kernel
theorem zf226_6 : fetch 226 6 = some (.aload_n 0, 1) := by decide +kernel
theorem zf226_7 : fetch 226 7 = some (.getfield 61, 3) := by decide +kernel
theorem zf226_10 : fetch 226 10 = some (.iload_n 1, 1) := by decide +kernel
theorem zf226_11 : fetch 226 11 = some (.iload_n 2, 1) := by decide +kernel
theorem zf226_12 : fetch 226 12 = some (.iload_n 3, 1) := by decide +kernel
theorem zf226_13 : fetch 226 13 = some (.invokevirtual 372, 3) := by decide +kernel
theorem zf226_16 : fetch 226 16 = some (.ifCond .eq 55, 3) := by decide +kernel
theorem zf226_71 : fetch 226 71 = some (.iconst (-1), 1) := by decide +kernel
theorem zf226_72 : fetch 226 72 = some (.ireturn, 1) := by decide +kernel
theorem zf226_19 : fetch 226 19 = some (.iload 4, 2) := by decide +kernel
theorem zf226_21 : fetch 226 21 = some (.i2l, 1) := by decide +kernel
theorem zf226_22 : fetch 226 22 = some (.lconst 0, 1) := by decide +kernel
theorem zf226_23 : fetch 226 23 = some (.ldc2_w 376, 3) := by decide +kernel
theorem zf226_26 : fetch 226 26 = some (.invokestatic 217, 3) := by decide +kernel
theorem zf226_29 : fetch 226 29 = some (.ifCond .eq 42, 3) := by decide +kernel
theorem zf226_32 : fetch 226 32 = some (.iload 4, 2) := by decide +kernel
theorem zf226_34 : fetch 226 34 = some (.aload_n 0, 1) := by decide +kernel
theorem zf226_35 : fetch 226 35 = some (.getfield 61, 3) := by decide +kernel
theorem zf226_38 : fetch 226 38 = some (.bipush 8, 2) := by decide +kernel
theorem zf226_40 : fetch 226 40 = some (.aload_n 0, 1) := by decide +kernel
theorem zf226_41 : fetch 226 41 = some (.getfield 61, 3) := by decide +kernel
theorem zf226_44 : fetch 226 44 = some (.iload_n 1, 1) := by decide +kernel
theorem zf226_45 : fetch 226 45 = some (.invokestatic 300, 3) := by decide +kernel
theorem zf226_48 : fetch 226 48 = some (.iaload, 1) := by decide +kernel
theorem zf226_49 : fetch 226 49 = some (.iadd, 1) := by decide +kernel
theorem zf226_50 : fetch 226 50 = some (.iaload, 1) := by decide +kernel
theorem zf226_51 : fetch 226 51 = some (.iconst (-1), 1) := by decide +kernel
theorem zf226_52 : fetch 226 52 = some (.ixor, 1) := by decide +kernel
theorem zf226_53 : fetch 226 53 = some (.iand, 1) := by decide +kernel
theorem zf226_54 : fetch 226 54 = some (.ifCond .ne 17, 3) := by decide +kernel
theorem zf226_57 : fetch 226 57 = some (.iload 4, 2) := by decide +kernel
theorem zf226_59 : fetch 226 59 = some (.invokestatic 355, 3) := by decide +kernel
theorem zf226_62 : fetch 226 62 = some (.aload_n 0, 1) := by decide +kernel
theorem zf226_63 : fetch 226 63 = some (.getfield 37, 3) := by decide +kernel
theorem zf226_66 : fetch 226 66 = some (.iconst 3, 1) := by decide +kernel
theorem zf226_67 : fetch 226 67 = some (.iaload, 1) := by decide +kernel
theorem zf226_68 : fetch 226 68 = some (.if_icmp .le 5, 3) := by decide +kernel
theorem zf226_73 : fetch 226 73 = some (.aload_n 0, 1) := by decide +kernel
theorem zf226_74 : fetch 226 74 = some (.invokevirtual 378, 3) := by decide +kernel
theorem zf226_77 : fetch 226 77 = some (.aload_n 0, 1) := by decide +kernel
theorem zf226_78 : fetch 226 78 = some (.aload_n 0, 1) := by decide +kernel
theorem zf226_79 : fetch 226 79 = some (.getfield 61, 3) := by decide +kernel
theorem zf226_82 : fetch 226 82 = some (.iload_n 1, 1) := by decide +kernel
theorem zf226_83 : fetch 226 83 = some (.iload_n 2, 1) := by decide +kernel
theorem zf226_84 : fetch 226 84 = some (.iload_n 3, 1) := by decide +kernel
theorem zf226_85 : fetch 226 85 = some (.iload 4, 2) := by decide +kernel
theorem zf226_87 : fetch 226 87 = some (.invokevirtual 381, 3) := by decide +kernel
theorem zf226_90 : fetch 226 90 = some (.istore 5, 2) := by decide +kernel
theorem zf226_92 : fetch 226 92 = some (.iload 5, 2) := by decide +kernel
theorem zf226_94 : fetch 226 94 = some (.iconst (-1), 1) := by decide +kernel
theorem zf226_95 : fetch 226 95 = some (.if_icmp .ne 8, 3) := by decide +kernel
theorem zf226_103 : fetch 226 103 = some (.iload 5, 2) := by decide +kernel
theorem zf226_105 : fetch 226 105 = some (.ireturn, 1) := by decide +kernel
theorem zf226_98 : fetch 226 98 = some (.bipush (-2), 2) := by decide +kernel
theorem zf226_100 : fetch 226 100 = some (.goto 5, 3) := by decide +kernel
theorem zf237_0 : fetch 237 0 = some (.aload_n 0, 1) := by decide +kernel
theorem zf237_1 : fetch 237 1 = some (.iconst 0, 1) := by decide +kernel
theorem zf237_2 : fetch 237 2 = some (.putfield 96, 3) := by decide +kernel
theorem zf237_5 : fetch 237 5 = some (.aload_n 0, 1) := by decide +kernel
theorem zf237_6 : fetch 237 6 = some (.aload_n 0, 1) := by decide +kernel
theorem zf237_7 : fetch 237 7 = some (.getfield 61, 3) := by decide +kernel
theorem zf237_10 : fetch 237 10 = some (.iload_n 1, 1) := by decide +kernel
theorem zf237_11 : fetch 237 11 = some (.iload_n 2, 1) := by decide +kernel
theorem zf237_12 : fetch 237 12 = some (.invokevirtual 386, 3) := by decide +kernel
theorem zf237_15 : fetch 237 15 = some (.ifCond .ne 5, 3) := by decide +kernel
theorem zf237_20 : fetch 237 20 = some (.aload_n 0, 1) := by decide +kernel
theorem zf237_21 : fetch 237 21 = some (.invokevirtual 378, 3) := by decide +kernel
theorem zf237_24 : fetch 237 24 = some (.aload_n 0, 1) := by decide +kernel
theorem zf237_25 : fetch 237 25 = some (.getfield 61, 3) := by decide +kernel
theorem zf237_28 : fetch 237 28 = some (.bipush 8, 2) := by decide +kernel
theorem zf237_30 : fetch 237 30 = some (.iload_n 1, 1) := by decide +kernel
theorem zf237_31 : fetch 237 31 = some (.iadd, 1) := by decide +kernel
theorem zf237_32 : fetch 237 32 = some (.dup2, 1) := by decide +kernel
theorem zf237_33 : fetch 237 33 = some (.iaload, 1) := by decide +kernel
theorem zf237_34 : fetch 237 34 = some (.iconst 1, 1) := by decide +kernel
theorem zf237_35 : fetch 237 35 = some (.iload_n 2, 1) := by decide +kernel
theorem zf237_36 : fetch 237 36 = some (.ishl, 1) := by decide +kernel
theorem zf237_37 : fetch 237 37 = some (.ior, 1) := by decide +kernel
theorem zf237_38 : fetch 237 38 = some (.iastore, 1) := by decide +kernel
theorem zf237_39 : fetch 237 39 = some (.iconst 1, 1) := by decide +kernel
theorem zf237_40 : fetch 237 40 = some (.ireturn, 1) := by decide +kernel
theorem zf237_18 : fetch 237 18 = some (.iconst 0, 1) := by decide +kernel
theorem zf237_19 : fetch 237 19 = some (.ireturn, 1) := by decide +kernel
theorem zf239_0 : fetch 239 0 = some (.aload_n 0, 1) := by decide +kernel
theorem zf239_1 : fetch 239 1 = some (.iconst 0, 1) := by decide +kernel
theorem zf239_2 : fetch 239 2 = some (.putfield 96, 3) := by decide +kernel
theorem zf239_5 : fetch 239 5 = some (.aload_n 0, 1) := by decide +kernel
theorem zf239_6 : fetch 239 6 = some (.iload_n 1, 1) := by decide +kernel
theorem zf239_7 : fetch 239 7 = some (.invokevirtual 362, 3) := by decide +kernel
theorem zf239_10 : fetch 239 10 = some (.ifCond .eq 30, 3) := by decide +kernel
theorem zf239_40 : fetch 239 40 = some (.iconst (-1), 1) := by decide +kernel
theorem zf239_41 : fetch 239 41 = some (.ireturn, 1) := by decide +kernel
theorem zf239_13 : fetch 239 13 = some (.iload_n 2, 1) := by decide +kernel
theorem zf239_14 : fetch 239 14 = some (.i2l, 1) := by decide +kernel
theorem zf239_15 : fetch 239 15 = some (.lconst 1, 1) := by decide +kernel
theorem zf239_16 : fetch 239 16 = some (.ldc2_w 367, 3) := by decide +kernel
theorem zf239_19 : fetch 239 19 = some (.invokestatic 217, 3) := by decide +kernel
theorem zf239_22 : fetch 239 22 = some (.ifCond .eq 18, 3) := by decide +kernel
theorem zf239_25 : fetch 239 25 = some (.aload_n 0, 1) := by decide +kernel
theorem zf239_26 : fetch 239 26 = some (.getfield 61, 3) := by decide +kernel
theorem zf239_29 : fetch 239 29 = some (.iconst 0, 1) := by decide +kernel
theorem zf239_30 : fetch 239 30 = some (.iload_n 1, 1) := by decide +kernel
theorem zf239_31 : fetch 239 31 = some (.iadd, 1) := by decide +kernel
theorem zf239_32 : fetch 239 32 = some (.iaload, 1) := by decide +kernel
theorem zf239_33 : fetch 239 33 = some (.iload_n 2, 1) := by decide +kernel
theorem zf239_34 : fetch 239 34 = some (.iadd, 1) := by decide +kernel
theorem zf239_35 : fetch 239 35 = some (.bipush 9, 2) := by decide +kernel
theorem zf239_37 : fetch 239 37 = some (.if_icmp .le 5, 3) := by decide +kernel
theorem zf239_42 : fetch 239 42 = some (.aload_n 0, 1) := by decide +kernel
theorem zf239_43 : fetch 239 43 = some (.invokevirtual 378, 3) := by decide +kernel
theorem zf239_46 : fetch 239 46 = some (.aload_n 0, 1) := by decide +kernel
theorem zf239_47 : fetch 239 47 = some (.getfield 61, 3) := by decide +kernel
theorem zf239_50 : fetch 239 50 = some (.iconst 0, 1) := by decide +kernel
theorem zf239_51 : fetch 239 51 = some (.iload_n 1, 1) := by decide +kernel
theorem zf239_52 : fetch 239 52 = some (.iadd, 1) := by decide +kernel
theorem zf239_53 : fetch 239 53 = some (.dup2, 1) := by decide +kernel
theorem zf239_54 : fetch 239 54 = some (.iaload, 1) := by decide +kernel
theorem zf239_55 : fetch 239 55 = some (.iload_n 2, 1) := by decide +kernel
theorem zf239_56 : fetch 239 56 = some (.iadd, 1) := by decide +kernel
theorem zf239_57 : fetch 239 57 = some (.iastore, 1) := by decide +kernel
theorem zf239_58 : fetch 239 58 = some (.aload_n 0, 1) := by decide +kernel
theorem zf239_59 : fetch 239 59 = some (.getfield 61, 3) := by decide +kernel
theorem zf239_62 : fetch 239 62 = some (.iconst 0, 1) := by decide +kernel
theorem zf239_63 : fetch 239 63 = some (.iload_n 1, 1) := by decide +kernel
theorem zf239_64 : fetch 239 64 = some (.iadd, 1) := by decide +kernel
theorem zf239_65 : fetch 239 65 = some (.iaload, 1) := by decide +kernel
theorem zf239_66 : fetch 239 66 = some (.ireturn, 1) := by decide +kernel
theorem zf240_0 : fetch 240 0 = some (.aload_n 0, 1) := by decide +kernel
theorem zf240_1 : fetch 240 1 = some (.iconst 0, 1) := by decide +kernel
theorem zf240_2 : fetch 240 2 = some (.putfield 96, 3) := by decide +kernel
theorem zf240_5 : fetch 240 5 = some (.aload_n 0, 1) := by decide +kernel
theorem zf240_6 : fetch 240 6 = some (.getfield 294, 3) := by decide +kernel
theorem zf240_9 : fetch 240 9 = some (.ifCond .eq 29, 3) := by decide +kernel
theorem zf240_38 : fetch 240 38 = some (.iconst (-1), 1) := by decide +kernel
theorem zf240_39 : fetch 240 39 = some (.ireturn, 1) := by decide +kernel
theorem zf240_12 : fetch 240 12 = some (.iload_n 1, 1) := by decide +kernel
theorem zf240_13 : fetch 240 13 = some (.i2l, 1) := by decide +kernel
theorem zf240_14 : fetch 240 14 = some (.lconst 1, 1) := by decide +kernel
theorem zf240_15 : fetch 240 15 = some (.ldc2_w 390, 3) := by decide +kernel
theorem zf240_18 : fetch 240 18 = some (.invokestatic 217, 3) := by decide +kernel
theorem zf240_21 : fetch 240 21 = some (.ifCond .eq 17, 3) := by decide +kernel
theorem zf240_24 : fetch 240 24 = some (.aload_n 0, 1) := by decide +kernel
theorem zf240_25 : fetch 240 25 = some (.getfield 61, 3) := by decide +kernel
theorem zf240_28 : fetch 240 28 = some (.bipush 31, 2) := by decide +kernel
theorem zf240_30 : fetch 240 30 = some (.iaload, 1) := by decide +kernel
theorem zf240_31 : fetch 240 31 = some (.iload_n 1, 1) := by decide +kernel
theorem zf240_32 : fetch 240 32 = some (.iadd, 1) := by decide +kernel
theorem zf240_33 : fetch 240 33 = some (.bipush 99, 2) := by decide +kernel
theorem zf240_35 : fetch 240 35 = some (.if_icmp .le 5, 3) := by decide +kernel
theorem zf240_40 : fetch 240 40 = some (.aload_n 0, 1) := by decide +kernel
theorem zf240_41 : fetch 240 41 = some (.invokevirtual 378, 3) := by decide +kernel
theorem zf240_44 : fetch 240 44 = some (.aload_n 0, 1) := by decide +kernel
theorem zf240_45 : fetch 240 45 = some (.getfield 61, 3) := by decide +kernel
theorem zf240_48 : fetch 240 48 = some (.bipush 31, 2) := by decide +kernel
theorem zf240_50 : fetch 240 50 = some (.dup2, 1) := by decide +kernel
theorem zf240_51 : fetch 240 51 = some (.iaload, 1) := by decide +kernel
theorem zf240_52 : fetch 240 52 = some (.iload_n 1, 1) := by decide +kernel
theorem zf240_53 : fetch 240 53 = some (.iadd, 1) := by decide +kernel
theorem zf240_54 : fetch 240 54 = some (.iastore, 1) := by decide +kernel
theorem zf240_55 : fetch 240 55 = some (.aload_n 0, 1) := by decide +kernel
theorem zf240_56 : fetch 240 56 = some (.getfield 61, 3) := by decide +kernel
theorem zf240_59 : fetch 240 59 = some (.bipush 31, 2) := by decide +kernel
theorem zf240_61 : fetch 240 61 = some (.iaload, 1) := by decide +kernel
theorem zf240_62 : fetch 240 62 = some (.ireturn, 1) := by decide +kernel
theorem zf241_0 : fetch 241 0 = some (.aload_n 0, 1) := by decide +kernel
theorem zf241_1 : fetch 241 1 = some (.iconst 0, 1) := by decide +kernel
theorem zf241_2 : fetch 241 2 = some (.putfield 96, 3) := by decide +kernel
theorem zf241_5 : fetch 241 5 = some (.aload_n 0, 1) := by decide +kernel
theorem zf241_6 : fetch 241 6 = some (.aload_n 0, 1) := by decide +kernel
theorem zf241_7 : fetch 241 7 = some (.getfield 61, 3) := by decide +kernel
theorem zf241_10 : fetch 241 10 = some (.iload_n 1, 1) := by decide +kernel
theorem zf241_11 : fetch 241 11 = some (.iload_n 2, 1) := by decide +kernel
theorem zf241_12 : fetch 241 12 = some (.invokevirtual 392, 3) := by decide +kernel
theorem zf241_15 : fetch 241 15 = some (.ifCond .ne 5, 3) := by decide +kernel
theorem zf241_20 : fetch 241 20 = some (.aload_n 0, 1) := by decide +kernel
theorem zf241_21 : fetch 241 21 = some (.invokevirtual 378, 3) := by decide +kernel
theorem zf241_24 : fetch 241 24 = some (.aload_n 0, 1) := by decide +kernel
theorem zf241_25 : fetch 241 25 = some (.getfield 61, 3) := by decide +kernel
theorem zf241_28 : fetch 241 28 = some (.iload_n 1, 1) := by decide +kernel
theorem zf241_29 : fetch 241 29 = some (.iload_n 2, 1) := by decide +kernel
theorem zf241_30 : fetch 241 30 = some (.invokestatic 395, 3) := by decide +kernel
theorem zf241_33 : fetch 241 33 = some (.iconst 1, 1) := by decide +kernel
theorem zf241_34 : fetch 241 34 = some (.ireturn, 1) := by decide +kernel
theorem zf241_18 : fetch 241 18 = some (.iconst 0, 1) := by decide +kernel
theorem zf241_19 : fetch 241 19 = some (.ireturn, 1) := by decide +kernel
theorem zf244_0 : fetch 244 0 = some (.aload_n 0, 1) := by decide +kernel
theorem zf244_1 : fetch 244 1 = some (.iconst 0, 1) := by decide +kernel
theorem zf244_2 : fetch 244 2 = some (.putfield 96, 3) := by decide +kernel
theorem zf244_5 : fetch 244 5 = some (.aload_n 0, 1) := by decide +kernel
theorem zf244_6 : fetch 244 6 = some (.getfield 294, 3) := by decide +kernel
theorem zf244_9 : fetch 244 9 = some (.ifCond .eq 26, 3) := by decide +kernel
theorem zf244_35 : fetch 244 35 = some (.iconst 0, 1) := by decide +kernel
theorem zf244_36 : fetch 244 36 = some (.ireturn, 1) := by decide +kernel
theorem zf244_12 : fetch 244 12 = some (.iload_n 1, 1) := by decide +kernel
theorem zf244_13 : fetch 244 13 = some (.i2l, 1) := by decide +kernel
theorem zf244_14 : fetch 244 14 = some (.lconst 0, 1) := by decide +kernel
theorem zf244_15 : fetch 244 15 = some (.ldc2_w 367, 3) := by decide +kernel
theorem zf244_18 : fetch 244 18 = some (.invokestatic 217, 3) := by decide +kernel
theorem zf244_21 : fetch 244 21 = some (.ifCond .eq 14, 3) := by decide +kernel
theorem zf244_24 : fetch 244 24 = some (.aload_n 0, 1) := by decide +kernel
theorem zf244_25 : fetch 244 25 = some (.getfield 61, 3) := by decide +kernel
theorem zf244_28 : fetch 244 28 = some (.bipush 34, 2) := by decide +kernel
theorem zf244_30 : fetch 244 30 = some (.iaload, 1) := by decide +kernel
theorem zf244_31 : fetch 244 31 = some (.iload_n 1, 1) := by decide +kernel
theorem zf244_32 : fetch 244 32 = some (.if_icmp .ne 5, 3) := by decide +kernel
theorem zf244_37 : fetch 244 37 = some (.aload_n 0, 1) := by decide +kernel
theorem zf244_38 : fetch 244 38 = some (.invokevirtual 378, 3) := by decide +kernel
theorem zf244_41 : fetch 244 41 = some (.aload_n 0, 1) := by decide +kernel
theorem zf244_42 : fetch 244 42 = some (.getfield 61, 3) := by decide +kernel
theorem zf244_45 : fetch 244 45 = some (.bipush 34, 2) := by decide +kernel
theorem zf244_47 : fetch 244 47 = some (.iload_n 1, 1) := by decide +kernel
theorem zf244_48 : fetch 244 48 = some (.iastore, 1) := by decide +kernel
theorem zf244_49 : fetch 244 49 = some (.iconst 1, 1) := by decide +kernel
theorem zf244_50 : fetch 244 50 = some (.ireturn, 1) := by decide +kernel
theorem zf245_0 : fetch 245 0 = some (.aload_n 0, 1) := by decide +kernel
theorem zf245_1 : fetch 245 1 = some (.iconst 0, 1) := by decide +kernel
theorem zf245_2 : fetch 245 2 = some (.putfield 96, 3) := by decide +kernel
theorem zf245_5 : fetch 245 5 = some (.aload_n 0, 1) := by decide +kernel
theorem zf245_6 : fetch 245 6 = some (.aload_n 0, 1) := by decide +kernel
theorem zf245_7 : fetch 245 7 = some (.getfield 61, 3) := by decide +kernel
theorem zf245_10 : fetch 245 10 = some (.iload_n 1, 1) := by decide +kernel
theorem zf245_11 : fetch 245 11 = some (.bipush 60, 2) := by decide +kernel
theorem zf245_13 : fetch 245 13 = some (.invokevirtual 399, 3) := by decide +kernel
theorem zf245_16 : fetch 245 16 = some (.ifCond .ne 5, 3) := by decide +kernel
theorem zf245_21 : fetch 245 21 = some (.iconst 0, 1) := by decide +kernel
theorem zf245_22 : fetch 245 22 = some (.istore_n 2, 1) := by decide +kernel
theorem zf245_19 : fetch 245 19 = some (.iconst (-1), 1) := by decide +kernel
theorem zf245_20 : fetch 245 20 = some (.ireturn, 1) := by decide +kernel
theorem zf248_0 : fetch 248 0 = some (.aload_n 0, 1) := by decide +kernel
theorem zf248_1 : fetch 248 1 = some (.iconst 0, 1) := by decide +kernel
theorem zf248_2 : fetch 248 2 = some (.putfield 96, 3) := by decide +kernel
theorem zf248_5 : fetch 248 5 = some (.aload_n 0, 1) := by decide +kernel
theorem zf248_6 : fetch 248 6 = some (.aload_n 0, 1) := by decide +kernel
theorem zf248_7 : fetch 248 7 = some (.getfield 61, 3) := by decide +kernel
theorem zf248_10 : fetch 248 10 = some (.iload_n 1, 1) := by decide +kernel
theorem zf248_11 : fetch 248 11 = some (.bipush 60, 2) := by decide +kernel
theorem zf248_13 : fetch 248 13 = some (.invokevirtual 399, 3) := by decide +kernel
theorem zf248_16 : fetch 248 16 = some (.ifCond .ne 5, 3) := by decide +kernel
theorem zf248_21 : fetch 248 21 = some (.aload_n 0, 1) := by decide +kernel
theorem zf248_22 : fetch 248 22 = some (.lload_n 2, 1) := by decide +kernel
theorem zf248_23 : fetch 248 23 = some (.putfield 406, 3) := by decide +kernel
theorem zf248_26 : fetch 248 26 = some (.iconst 0, 1) := by decide +kernel
theorem zf248_27 : fetch 248 27 = some (.istore 4, 2) := by decide +kernel
theorem zf248_19 : fetch 248 19 = some (.iconst (-1), 1) := by decide +kernel
theorem zf248_20 : fetch 248 20 = some (.ireturn, 1) := by decide +kernel
theorem zf251_0 : fetch 251 0 = some (.aload_n 0, 1) := by decide +kernel
theorem zf251_1 : fetch 251 1 = some (.iconst 0, 1) := by decide +kernel
theorem zf251_2 : fetch 251 2 = some (.putfield 96, 3) := by decide +kernel
theorem zf251_5 : fetch 251 5 = some (.aload_n 0, 1) := by decide +kernel
theorem zf251_6 : fetch 251 6 = some (.getfield 309, 3) := by decide +kernel
theorem zf251_9 : fetch 251 9 = some (.ifCond .ne 5, 3) := by decide +kernel
theorem zf251_14 : fetch 251 14 = some (.aload_n 0, 1) := by decide +kernel
theorem zf251_15 : fetch 251 15 = some (.dup, 1) := by decide +kernel
theorem zf251_16 : fetch 251 16 = some (.getfield 309, 3) := by decide +kernel
theorem zf251_19 : fetch 251 19 = some (.iconst 1, 1) := by decide +kernel
theorem zf251_20 : fetch 251 20 = some (.isub, 1) := by decide +kernel
theorem zf251_21 : fetch 251 21 = some (.putfield 309, 3) := by decide +kernel
theorem zf251_24 : fetch 251 24 = some (.iconst 0, 1) := by decide +kernel
theorem zf251_25 : fetch 251 25 = some (.istore_n 1, 1) := by decide +kernel
theorem zf251_12 : fetch 251 12 = some (.iconst (-1), 1) := by decide +kernel
theorem zf251_13 : fetch 251 13 = some (.ireturn, 1) := by decide +kernel
theorem zf252_0 : fetch 252 0 = some (.aload_n 0, 1) := by decide +kernel
theorem zf252_1 : fetch 252 1 = some (.iconst 0, 1) := by decide +kernel
theorem zf252_2 : fetch 252 2 = some (.putfield 96, 3) := by decide +kernel
theorem zf252_5 : fetch 252 5 = some (.iload_n 1, 1) := by decide +kernel
theorem zf252_6 : fetch 252 6 = some (.i2l, 1) := by decide +kernel
theorem zf252_7 : fetch 252 7 = some (.lconst 0, 1) := by decide +kernel
theorem zf252_8 : fetch 252 8 = some (.aload_n 0, 1) := by decide +kernel
theorem zf252_9 : fetch 252 9 = some (.getfield 61, 3) := by decide +kernel
theorem zf252_12 : fetch 252 12 = some (.bipush 36, 2) := by decide +kernel
theorem zf252_14 : fetch 252 14 = some (.iaload, 1) := by decide +kernel
theorem zf252_15 : fetch 252 15 = some (.iconst 1, 1) := by decide +kernel
theorem zf252_16 : fetch 252 16 = some (.isub, 1) := by decide +kernel
theorem zf252_17 : fetch 252 17 = some (.i2l, 1) := by decide +kernel
theorem zf252_18 : fetch 252 18 = some (.invokestatic 217, 3) := by decide +kernel
theorem zf252_21 : fetch 252 21 = some (.ifCond .eq 41, 3) := by decide +kernel
theorem zf252_62 : fetch 252 62 = some (.ldc_w 421, 3) := by decide +kernel
theorem zf252_65 : fetch 252 65 = some (.ireturn, 1) := by decide +kernel
theorem zf252_24 : fetch 252 24 = some (.iload_n 2, 1) := by decide +kernel
theorem zf252_25 : fetch 252 25 = some (.i2l, 1) := by decide +kernel
theorem zf252_26 : fetch 252 26 = some (.lconst 0, 1) := by decide +kernel
theorem zf252_27 : fetch 252 27 = some (.ldc2_w 365, 3) := by decide +kernel
theorem zf252_30 : fetch 252 30 = some (.invokestatic 217, 3) := by decide +kernel
theorem zf252_33 : fetch 252 33 = some (.ifCond .eq 29, 3) := by decide +kernel
theorem zf252_36 : fetch 252 36 = some (.aload_n 0, 1) := by decide +kernel
theorem zf252_37 : fetch 252 37 = some (.getfield 61, 3) := by decide +kernel
theorem zf252_40 : fetch 252 40 = some (.bipush 37, 2) := by decide +kernel
theorem zf252_42 : fetch 252 42 = some (.iconst 4, 1) := by decide +kernel
theorem zf252_43 : fetch 252 43 = some (.aload_n 0, 1) := by decide +kernel
theorem zf252_44 : fetch 252 44 = some (.getfield 61, 3) := by decide +kernel
theorem zf252_47 : fetch 252 47 = some (.bipush 36, 2) := by decide +kernel
theorem zf252_49 : fetch 252 49 = some (.iaload, 1) := by decide +kernel
theorem zf252_50 : fetch 252 50 = some (.iconst 1, 1) := by decide +kernel
theorem zf252_51 : fetch 252 51 = some (.isub, 1) := by decide +kernel
theorem zf252_52 : fetch 252 52 = some (.iload_n 1, 1) := by decide +kernel
theorem zf252_53 : fetch 252 53 = some (.isub, 1) := by decide +kernel
theorem zf252_54 : fetch 252 54 = some (.imul, 1) := by decide +kernel
theorem zf252_55 : fetch 252 55 = some (.iadd, 1) := by decide +kernel
theorem zf252_56 : fetch 252 56 = some (.iload_n 2, 1) := by decide +kernel
theorem zf252_57 : fetch 252 57 = some (.iadd, 1) := by decide +kernel
theorem zf252_58 : fetch 252 58 = some (.iaload, 1) := by decide +kernel
theorem zf252_59 : fetch 252 59 = some (.goto 6, 3) := by decide +kernel
theorem zf253_0 : fetch 253 0 = some (.aload_n 0, 1) := by decide +kernel
theorem zf253_1 : fetch 253 1 = some (.iconst 0, 1) := by decide +kernel
theorem zf253_2 : fetch 253 2 = some (.putfield 96, 3) := by decide +kernel
theorem zf253_5 : fetch 253 5 = some (.aload_n 0, 1) := by decide +kernel
theorem zf253_6 : fetch 253 6 = some (.iload_n 1, 1) := by decide +kernel
theorem zf253_7 : fetch 253 7 = some (.invokevirtual 422, 3) := by decide +kernel
theorem zf253_10 : fetch 253 10 = some (.ifCond .eq 51, 3) := by decide +kernel
theorem zf253_61 : fetch 253 61 = some (.ldc_w 421, 3) := by decide +kernel
theorem zf253_64 : fetch 253 64 = some (.ireturn, 1) := by decide +kernel
theorem zf253_13 : fetch 253 13 = some (.iload_n 2, 1) := by decide +kernel
theorem zf253_14 : fetch 253 14 = some (.i2l, 1) := by decide +kernel
theorem zf253_15 : fetch 253 15 = some (.lconst 0, 1) := by decide +kernel
theorem zf253_16 : fetch 253 16 = some (.aload_n 0, 1) := by decide +kernel
theorem zf253_17 : fetch 253 17 = some (.getfield 58, 3) := by decide +kernel
theorem zf253_20 : fetch 253 20 = some (.iload_n 1, 1) := by decide +kernel
theorem zf253_21 : fetch 253 21 = some (.iaload, 1) := by decide +kernel
theorem zf253_22 : fetch 253 22 = some (.iconst 1, 1) := by decide +kernel
theorem zf253_23 : fetch 253 23 = some (.isub, 1) := by decide +kernel
theorem zf253_24 : fetch 253 24 = some (.i2l, 1) := by decide +kernel
theorem zf253_25 : fetch 253 25 = some (.invokestatic 217, 3) := by decide +kernel
theorem zf253_28 : fetch 253 28 = some (.ifCond .eq 33, 3) := by decide +kernel
theorem zf253_31 : fetch 253 31 = some (.iload_n 3, 1) := by decide +kernel
theorem zf253_32 : fetch 253 32 = some (.i2l, 1) := by decide +kernel
theorem zf253_33 : fetch 253 33 = some (.lconst 0, 1) := by decide +kernel
theorem zf253_34 : fetch 253 34 = some (.ldc2_w 365, 3) := by decide +kernel
theorem zf253_37 : fetch 253 37 = some (.invokestatic 217, 3) := by decide +kernel
theorem zf253_40 : fetch 253 40 = some (.ifCond .eq 21, 3) := by decide +kernel
theorem zf253_43 : fetch 253 43 = some (.aload_n 0, 1) := by decide +kernel
theorem zf253_44 : fetch 253 44 = some (.getfield 55, 3) := by decide +kernel
theorem zf253_47 : fetch 253 47 = some (.iconst 4, 1) := by decide +kernel
theorem zf253_48 : fetch 253 48 = some (.bipush 16, 2) := by decide +kernel
theorem zf253_50 : fetch 253 50 = some (.iload_n 1, 1) := by decide +kernel
theorem zf253_51 : fetch 253 51 = some (.imul, 1) := by decide +kernel
theorem zf253_52 : fetch 253 52 = some (.iload_n 2, 1) := by decide +kernel
theorem zf253_53 : fetch 253 53 = some (.iadd, 1) := by decide +kernel
theorem zf253_54 : fetch 253 54 = some (.imul, 1) := by decide +kernel
theorem zf253_55 : fetch 253 55 = some (.iload_n 3, 1) := by decide +kernel
theorem zf253_56 : fetch 253 56 = some (.iadd, 1) := by decide +kernel
theorem zf253_57 : fetch 253 57 = some (.iaload, 1) := by decide +kernel
theorem zf253_58 : fetch 253 58 = some (.goto 6, 3) := by decide +kernel
theorem zf255_0 : fetch 255 0 = some (.aload_n 0, 1) := by decide +kernel
theorem zf255_1 : fetch 255 1 = some (.iconst 0, 1) := by decide +kernel
theorem zf255_2 : fetch 255 2 = some (.putfield 96, 3) := by decide +kernel
theorem zf255_5 : fetch 255 5 = some (.aload_n 0, 1) := by decide +kernel
theorem zf255_6 : fetch 255 6 = some (.iload_n 1, 1) := by decide +kernel
theorem zf255_7 : fetch 255 7 = some (.invokevirtual 422, 3) := by decide +kernel
theorem zf255_10 : fetch 255 10 = some (.ifCond .eq 20, 3) := by decide +kernel
theorem zf255_30 : fetch 255 30 = some (.ldc_w 421, 3) := by decide +kernel
theorem zf255_33 : fetch 255 33 = some (.ireturn, 1) := by decide +kernel
theorem zf255_13 : fetch 255 13 = some (.aload_n 0, 1) := by decide +kernel
theorem zf255_14 : fetch 255 14 = some (.getfield 294, 3) := by decide +kernel
theorem zf255_17 : fetch 255 17 = some (.ifCond .eq 13, 3) := by decide +kernel
theorem zf255_20 : fetch 255 20 = some (.iload_n 2, 1) := by decide +kernel
theorem zf255_21 : fetch 255 21 = some (.i2l, 1) := by decide +kernel
theorem zf255_22 : fetch 255 22 = some (.lconst 0, 1) := by decide +kernel
theorem zf255_23 : fetch 255 23 = some (.lconst 1, 1) := by decide +kernel
theorem zf255_24 : fetch 255 24 = some (.invokestatic 217, 3) := by decide +kernel
theorem zf255_27 : fetch 255 27 = some (.ifCond .ne 7, 3) := by decide +kernel
theorem zf255_34 : fetch 255 34 = some (.aload_n 0, 1) := by decide +kernel
theorem zf255_35 : fetch 255 35 = some (.getfield 61, 3) := by decide +kernel
theorem zf255_38 : fetch 255 38 = some (.aload_n 0, 1) := by decide +kernel
theorem zf255_39 : fetch 255 39 = some (.getfield 64, 3) := by decide +kernel
theorem zf255_42 : fetch 255 42 = some (.invokestatic 425, 3) := by decide +kernel
theorem zf255_45 : fetch 255 45 = some (.iconst 0, 1) := by decide +kernel
theorem zf255_46 : fetch 255 46 = some (.istore_n 3, 1) := by decide +kernel
theorem zf260_0 : fetch 260 0 = some (.aload_n 0, 1) := by decide +kernel
theorem zf260_1 : fetch 260 1 = some (.iconst 0, 1) := by decide +kernel
theorem zf260_2 : fetch 260 2 = some (.putfield 96, 3) := by decide +kernel
theorem zf260_5 : fetch 260 5 = some (.aload_n 0, 1) := by decide +kernel
theorem zf260_6 : fetch 260 6 = some (.iload_n 1, 1) := by decide +kernel
theorem zf260_7 : fetch 260 7 = some (.invokevirtual 422, 3) := by decide +kernel
theorem zf260_10 : fetch 260 10 = some (.ifCond .eq 10, 3) := by decide +kernel
theorem zf260_20 : fetch 260 20 = some (.iconst (-1), 1) := by decide +kernel
theorem zf260_21 : fetch 260 21 = some (.ireturn, 1) := by decide +kernel
theorem zf260_13 : fetch 260 13 = some (.aload_n 0, 1) := by decide +kernel
theorem zf260_14 : fetch 260 14 = some (.getfield 294, 3) := by decide +kernel
theorem zf260_17 : fetch 260 17 = some (.ifCond .ne 5, 3) := by decide +kernel
theorem zf260_22 : fetch 260 22 = some (.iconst 0, 1) := by decide +kernel
theorem zf260_23 : fetch 260 23 = some (.istore_n 2, 1) := by decide +kernel
theorem zf261_0 : fetch 261 0 = some (.aload_n 0, 1) := by decide +kernel
theorem zf261_1 : fetch 261 1 = some (.iconst 0, 1) := by decide +kernel
theorem zf261_2 : fetch 261 2 = some (.putfield 96, 3) := by decide +kernel
theorem zf261_5 : fetch 261 5 = some (.aload_n 0, 1) := by decide +kernel
theorem zf261_6 : fetch 261 6 = some (.iload_n 1, 1) := by decide +kernel
theorem zf261_7 : fetch 261 7 = some (.iload_n 2, 1) := by decide +kernel
theorem zf261_8 : fetch 261 8 = some (.iload_n 3, 1) := by decide +kernel
theorem zf261_9 : fetch 261 9 = some (.iload 4, 2) := by decide +kernel
theorem zf261_11 : fetch 261 11 = some (.invokevirtual 439, 3) := by decide +kernel
theorem zf261_14 : fetch 261 14 = some (.ifCond .eq 14, 3) := by decide +kernel
theorem zf261_28 : fetch 261 28 = some (.ldc_w 421, 3) := by decide +kernel
theorem zf261_31 : fetch 261 31 = some (.ireturn, 1) := by decide +kernel
theorem zf261_17 : fetch 261 17 = some (.iload 5, 2) := by decide +kernel
theorem zf261_19 : fetch 261 19 = some (.i2l, 1) := by decide +kernel
theorem zf261_20 : fetch 261 20 = some (.lconst 0, 1) := by decide +kernel
theorem zf261_21 : fetch 261 21 = some (.lconst 1, 1) := by decide +kernel
theorem zf261_22 : fetch 261 22 = some (.invokestatic 217, 3) := by decide +kernel
theorem zf261_25 : fetch 261 25 = some (.ifCond .ne 7, 3) := by decide +kernel
theorem zf261_32 : fetch 261 32 = some (.aload_n 0, 1) := by decide +kernel
theorem zf261_33 : fetch 261 33 = some (.aload_n 0, 1) := by decide +kernel
theorem zf261_34 : fetch 261 34 = some (.getfield 61, 3) := by decide +kernel
theorem zf261_37 : fetch 261 37 = some (.iload_n 1, 1) := by decide +kernel
theorem zf261_38 : fetch 261 38 = some (.iload_n 2, 1) := by decide +kernel
theorem zf261_39 : fetch 261 39 = some (.iload_n 3, 1) := by decide +kernel
theorem zf261_40 : fetch 261 40 = some (.iload 4, 2) := by decide +kernel
theorem zf261_42 : fetch 261 42 = some (.invokevirtual 348, 3) := by decide +kernel
theorem zf261_45 : fetch 261 45 = some (.istore 6, 2) := by decide +kernel
theorem zf261_47 : fetch 261 47 = some (.iload 5, 2) := by decide +kernel
theorem zf261_49 : fetch 261 49 = some (.iconst 1, 1) := by decide +kernel
theorem zf261_50 : fetch 261 50 = some (.if_icmp .ne 8, 3) := by decide +kernel
theorem zf261_58 : fetch 261 58 = some (.aload_n 0, 1) := by decide +kernel
theorem zf261_59 : fetch 261 59 = some (.iload 6, 2) := by decide +kernel
theorem zf261_61 : fetch 261 61 = some (.invokevirtual 352, 3) := by decide +kernel
theorem zf261_64 : fetch 261 64 = some (.ireturn, 1) := by decide +kernel
theorem zf261_53 : fetch 261 53 = some (.iload 6, 2) := by decide +kernel
theorem zf261_55 : fetch 261 55 = some (.goto 9, 3) := by decide +kernel
theorem zf263_0 : fetch 263 0 = some (.aload_n 0, 1) := by decide +kernel
theorem zf263_1 : fetch 263 1 = some (.iconst 0, 1) := by decide +kernel
theorem zf263_2 : fetch 263 2 = some (.putfield 96, 3) := by decide +kernel
theorem zf263_5 : fetch 263 5 = some (.aload_n 0, 1) := by decide +kernel
theorem zf263_6 : fetch 263 6 = some (.iload_n 1, 1) := by decide +kernel
theorem zf263_7 : fetch 263 7 = some (.invokevirtual 339, 3) := by decide +kernel
theorem zf263_10 : fetch 263 10 = some (.ifCond .eq 24, 3) := by decide +kernel
theorem zf263_34 : fetch 263 34 = some (.iconst (-1), 1) := by decide +kernel
theorem zf263_35 : fetch 263 35 = some (.ireturn, 1) := by decide +kernel
theorem zf263_13 : fetch 263 13 = some (.aload_n 0, 1) := by decide +kernel
theorem zf263_14 : fetch 263 14 = some (.iload_n 2, 1) := by decide +kernel
theorem zf263_15 : fetch 263 15 = some (.invokevirtual 362, 3) := by decide +kernel
theorem zf263_18 : fetch 263 18 = some (.ifCond .eq 16, 3) := by decide +kernel
theorem zf263_21 : fetch 263 21 = some (.aload_n 0, 1) := by decide +kernel
theorem zf263_22 : fetch 263 22 = some (.iload_n 3, 1) := by decide +kernel
theorem zf263_23 : fetch 263 23 = some (.invokevirtual 362, 3) := by decide +kernel
theorem zf263_26 : fetch 263 26 = some (.ifCond .eq 8, 3) := by decide +kernel
theorem zf263_29 : fetch 263 29 = some (.iload_n 2, 1) := by decide +kernel
theorem zf263_30 : fetch 263 30 = some (.iload_n 3, 1) := by decide +kernel
theorem zf263_31 : fetch 263 31 = some (.if_icmp .ne 5, 3) := by decide +kernel
theorem zf263_36 : fetch 263 36 = some (.aload_n 0, 1) := by decide +kernel
theorem zf263_37 : fetch 263 37 = some (.iload_n 1, 1) := by decide +kernel
theorem zf263_38 : fetch 263 38 = some (.invokevirtual 443, 3) := by decide +kernel
theorem zf263_41 : fetch 263 41 = some (.aload_n 0, 1) := by decide +kernel
theorem zf263_42 : fetch 263 42 = some (.iload_n 1, 1) := by decide +kernel
theorem zf263_43 : fetch 263 43 = some (.iload_n 2, 1) := by decide +kernel
theorem zf263_44 : fetch 263 44 = some (.iload_n 3, 1) := by decide +kernel
theorem zf263_45 : fetch 263 45 = some (.invokevirtual 446, 3) := by decide +kernel
theorem zf263_48 : fetch 263 48 = some (.ifCond .ne 7, 3) := by decide +kernel
theorem zf263_55 : fetch 263 55 = some (.aload_n 0, 1) := by decide +kernel
theorem zf263_56 : fetch 263 56 = some (.iload_n 1, 1) := by decide +kernel
theorem zf263_57 : fetch 263 57 = some (.iload_n 2, 1) := by decide +kernel
theorem zf263_58 : fetch 263 58 = some (.iload_n 3, 1) := by decide +kernel
theorem zf263_59 : fetch 263 59 = some (.invokevirtual 446, 3) := by decide +kernel
theorem zf263_62 : fetch 263 62 = some (.ireturn, 1) := by decide +kernel
theorem zf263_51 : fetch 263 51 = some (.iconst (-1), 1) := by decide +kernel
theorem zf263_52 : fetch 263 52 = some (.goto 10, 3) := by decide +kernel
theorem zf266_0 : fetch 266 0 = some (.aload_n 0, 1) := by decide +kernel
theorem zf266_1 : fetch 266 1 = some (.iconst 0, 1) := by decide +kernel
theorem zf266_2 : fetch 266 2 = some (.putfield 96, 3) := by decide +kernel
theorem zf266_5 : fetch 266 5 = some (.aload_n 0, 1) := by decide +kernel
theorem zf266_6 : fetch 266 6 = some (.iload_n 1, 1) := by decide +kernel
theorem zf266_7 : fetch 266 7 = some (.invokevirtual 339, 3) := by decide +kernel
theorem zf266_10 : fetch 266 10 = some (.ifCond .eq 40, 3) := by decide +kernel
theorem zf266_50 : fetch 266 50 = some (.iconst (-1), 1) := by decide +kernel
theorem zf266_51 : fetch 266 51 = some (.ireturn, 1) := by decide +kernel
theorem zf266_13 : fetch 266 13 = some (.aload_n 0, 1) := by decide +kernel
theorem zf266_14 : fetch 266 14 = some (.iload_n 2, 1) := by decide +kernel
theorem zf266_15 : fetch 266 15 = some (.invokevirtual 362, 3) := by decide +kernel
theorem zf266_18 : fetch 266 18 = some (.ifCond .eq 32, 3) := by decide +kernel
theorem zf266_21 : fetch 266 21 = some (.aload_n 0, 1) := by decide +kernel
theorem zf266_22 : fetch 266 22 = some (.iload_n 3, 1) := by decide +kernel
theorem zf266_23 : fetch 266 23 = some (.invokevirtual 362, 3) := by decide +kernel
theorem zf266_26 : fetch 266 26 = some (.ifCond .eq 24, 3) := by decide +kernel
theorem zf266_29 : fetch 266 29 = some (.iload 4, 2) := by decide +kernel
theorem zf266_31 : fetch 266 31 = some (.i2l, 1) := by decide +kernel
theorem zf266_32 : fetch 266 32 = some (.lconst 0, 1) := by decide +kernel
theorem zf266_33 : fetch 266 33 = some (.lconst 1, 1) := by decide +kernel
theorem zf266_34 : fetch 266 34 = some (.invokestatic 217, 3) := by decide +kernel
theorem zf266_37 : fetch 266 37 = some (.ifCond .eq 13, 3) := by decide +kernel
theorem zf266_40 : fetch 266 40 = some (.aload_n 0, 1) := by decide +kernel
theorem zf266_41 : fetch 266 41 = some (.iload_n 1, 1) := by decide +kernel
theorem zf266_42 : fetch 266 42 = some (.iload_n 2, 1) := by decide +kernel
theorem zf266_43 : fetch 266 43 = some (.iload_n 3, 1) := by decide +kernel
theorem zf266_44 : fetch 266 44 = some (.invokevirtual 463, 3) := by decide +kernel
theorem zf266_47 : fetch 266 47 = some (.ifCond .ne 5, 3) := by decide +kernel
theorem zf266_52 : fetch 266 52 = some (.iload 4, 2) := by decide +kernel
theorem zf266_54 : fetch 266 54 = some (.ifCond .ne 10, 3) := by decide +kernel
theorem zf266_64 : fetch 266 64 = some (.aload_n 0, 1) := by decide +kernel
theorem zf266_65 : fetch 266 65 = some (.getfield 453, 3) := by decide +kernel
theorem zf266_68 : fetch 266 68 = some (.ireturn, 1) := by decide +kernel
theorem zf266_57 : fetch 266 57 = some (.aload_n 0, 1) := by decide +kernel
theorem zf266_58 : fetch 266 58 = some (.getfield 456, 3) := by decide +kernel
theorem zf266_61 : fetch 266 61 = some (.goto 7, 3) := by decide +kernel
theorem zf269_0 : fetch 269 0 = some (.aload_n 0, 1) := by decide +kernel
theorem zf269_1 : fetch 269 1 = some (.iconst 0, 1) := by decide +kernel
theorem zf269_2 : fetch 269 2 = some (.putfield 96, 3) := by decide +kernel
theorem zf269_5 : fetch 269 5 = some (.aload_n 0, 1) := by decide +kernel
theorem zf269_6 : fetch 269 6 = some (.iload_n 1, 1) := by decide +kernel
theorem zf269_7 : fetch 269 7 = some (.invokevirtual 339, 3) := by decide +kernel
theorem zf269_10 : fetch 269 10 = some (.ifCond .eq 29, 3) := by decide +kernel
theorem zf269_39 : fetch 269 39 = some (.iconst (-1), 1) := by decide +kernel
theorem zf269_40 : fetch 269 40 = some (.ireturn, 1) := by decide +kernel
theorem zf269_13 : fetch 269 13 = some (.aload_n 0, 1) := by decide +kernel
theorem zf269_14 : fetch 269 14 = some (.iload_n 2, 1) := by decide +kernel
theorem zf269_15 : fetch 269 15 = some (.invokevirtual 362, 3) := by decide +kernel
theorem zf269_18 : fetch 269 18 = some (.ifCond .eq 21, 3) := by decide +kernel
theorem zf269_21 : fetch 269 21 = some (.aload_n 0, 1) := by decide +kernel
theorem zf269_22 : fetch 269 22 = some (.iload_n 3, 1) := by decide +kernel
theorem zf269_23 : fetch 269 23 = some (.invokevirtual 362, 3) := by decide +kernel
theorem zf269_26 : fetch 269 26 = some (.ifCond .eq 13, 3) := by decide +kernel
theorem zf269_29 : fetch 269 29 = some (.aload_n 0, 1) := by decide +kernel
theorem zf269_30 : fetch 269 30 = some (.iload_n 1, 1) := by decide +kernel
theorem zf269_31 : fetch 269 31 = some (.iload_n 2, 1) := by decide +kernel
theorem zf269_32 : fetch 269 32 = some (.iload_n 3, 1) := by decide +kernel
theorem zf269_33 : fetch 269 33 = some (.invokevirtual 471, 3) := by decide +kernel
theorem zf269_36 : fetch 269 36 = some (.goto 4, 3) := by decide +kernel
theorem zf271_0 : fetch 271 0 = some (.aload_n 0, 1) := by decide +kernel
theorem zf271_1 : fetch 271 1 = some (.iconst 0, 1) := by decide +kernel
theorem zf271_2 : fetch 271 2 = some (.putfield 96, 3) := by decide +kernel
theorem zf271_5 : fetch 271 5 = some (.aload_n 0, 1) := by decide +kernel
theorem zf271_6 : fetch 271 6 = some (.iload_n 1, 1) := by decide +kernel
theorem zf271_7 : fetch 271 7 = some (.invokevirtual 362, 3) := by decide +kernel
theorem zf271_10 : fetch 271 10 = some (.ifCond .eq 11, 3) := by decide +kernel
theorem zf271_21 : fetch 271 21 = some (.iconst (-1), 1) := by decide +kernel
theorem zf271_22 : fetch 271 22 = some (.ireturn, 1) := by decide +kernel
theorem zf271_13 : fetch 271 13 = some (.aload_n 0, 1) := by decide +kernel
theorem zf271_14 : fetch 271 14 = some (.iload_n 2, 1) := by decide +kernel
theorem zf271_15 : fetch 271 15 = some (.invokevirtual 362, 3) := by decide +kernel
theorem zf271_18 : fetch 271 18 = some (.ifCond .ne 5, 3) := by decide +kernel
theorem zf271_23 : fetch 271 23 = some (.iconst (-1), 1) := by decide +kernel
theorem zf271_24 : fetch 271 24 = some (.istore_n 3, 1) := by decide +kernel
theorem zf271_25 : fetch 271 25 = some (.iconst (-1), 1) := by decide +kernel
theorem zf271_26 : fetch 271 26 = some (.istore 4, 2) := by decide +kernel
theorem zf271_28 : fetch 271 28 = some (.iconst 0, 1) := by decide +kernel
theorem zf271_29 : fetch 271 29 = some (.istore 5, 2) := by decide +kernel
theorem zf272_0 : fetch 272 0 = some (.aload_n 0, 1) := by decide +kernel
theorem zf272_1 : fetch 272 1 = some (.iconst 0, 1) := by decide +kernel
theorem zf272_2 : fetch 272 2 = some (.putfield 96, 3) := by decide +kernel
theorem zf272_5 : fetch 272 5 = some (.aload_n 0, 1) := by decide +kernel
theorem zf272_6 : fetch 272 6 = some (.iload_n 2, 1) := by decide +kernel
theorem zf272_7 : fetch 272 7 = some (.invokevirtual 362, 3) := by decide +kernel
theorem zf272_10 : fetch 272 10 = some (.ifCond .eq 25, 3) := by decide +kernel
theorem zf272_35 : fetch 272 35 = some (.iconst (-1), 1) := by decide +kernel
theorem zf272_36 : fetch 272 36 = some (.ireturn, 1) := by decide +kernel
theorem zf272_13 : fetch 272 13 = some (.iload_n 1, 1) := by decide +kernel
theorem zf272_14 : fetch 272 14 = some (.i2l, 1) := by decide +kernel
theorem zf272_15 : fetch 272 15 = some (.lconst 0, 1) := by decide +kernel
theorem zf272_16 : fetch 272 16 = some (.ldc2_w 384, 3) := by decide +kernel
theorem zf272_19 : fetch 272 19 = some (.invokestatic 217, 3) := by decide +kernel
theorem zf272_22 : fetch 272 22 = some (.ifCond .eq 13, 3) := by decide +kernel
theorem zf272_25 : fetch 272 25 = some (.iload_n 3, 1) := by decide +kernel
theorem zf272_26 : fetch 272 26 = some (.i2l, 1) := by decide +kernel
theorem zf272_27 : fetch 272 27 = some (.lconst 0, 1) := by decide +kernel
theorem zf272_28 : fetch 272 28 = some (.lconst 1, 1) := by decide +kernel
theorem zf272_29 : fetch 272 29 = some (.invokestatic 217, 3) := by decide +kernel
theorem zf272_32 : fetch 272 32 = some (.ifCond .ne 5, 3) := by decide +kernel
theorem zf272_37 : fetch 272 37 = some (.aload_n 0, 1) := by decide +kernel
theorem zf272_38 : fetch 272 38 = some (.invokevirtual 481, 3) := by decide +kernel
theorem zf272_41 : fetch 272 41 = some (.aload_n 0, 1) := by decide +kernel
theorem zf272_42 : fetch 272 42 = some (.iload_n 1, 1) := by decide +kernel
theorem zf272_43 : fetch 272 43 = some (.invokevirtual 484, 3) := by decide +kernel
theorem zf272_46 : fetch 272 46 = some (.istore 4, 2) := by decide +kernel
theorem zf272_48 : fetch 272 48 = some (.iconst 0, 1) := by decide +kernel
theorem zf272_49 : fetch 272 49 = some (.istore 5, 2) := by decide +kernel
theorem zf277_0 : fetch 277 0 = some (.aload_n 0, 1) := by decide +kernel
theorem zf277_1 : fetch 277 1 = some (.iconst 0, 1) := by decide +kernel
theorem zf277_2 : fetch 277 2 = some (.putfield 96, 3) := by decide +kernel
theorem zf277_5 : fetch 277 5 = some (.aload_n 0, 1) := by decide +kernel
theorem zf277_6 : fetch 277 6 = some (.iload_n 1, 1) := by decide +kernel
theorem zf277_7 : fetch 277 7 = some (.iload_n 2, 1) := by decide +kernel
theorem zf277_8 : fetch 277 8 = some (.iload_n 3, 1) := by decide +kernel
theorem zf277_9 : fetch 277 9 = some (.iload 4, 2) := by decide +kernel
theorem zf277_11 : fetch 277 11 = some (.invokevirtual 439, 3) := by decide +kernel
theorem zf277_14 : fetch 277 14 = some (.ifCond .eq 27, 3) := by decide +kernel
theorem zf277_41 : fetch 277 41 = some (.iconst (-1), 1) := by decide +kernel
theorem zf277_42 : fetch 277 42 = some (.ireturn, 1) := by decide +kernel
theorem zf277_17 : fetch 277 17 = some (.iload 5, 2) := by decide +kernel
theorem zf277_19 : fetch 277 19 = some (.i2l, 1) := by decide +kernel
theorem zf277_20 : fetch 277 20 = some (.ldc2_w 487, 3) := by decide +kernel
theorem zf277_23 : fetch 277 23 = some (.ldc2_w 489, 3) := by decide +kernel
theorem zf277_26 : fetch 277 26 = some (.invokestatic 217, 3) := by decide +kernel
theorem zf277_29 : fetch 277 29 = some (.ifCond .eq 12, 3) := by decide +kernel
theorem zf277_32 : fetch 277 32 = some (.aload_n 0, 1) := by decide +kernel
theorem zf277_33 : fetch 277 33 = some (.getfield 303, 3) := by decide +kernel
theorem zf277_36 : fetch 277 36 = some (.bipush 10, 2) := by decide +kernel
theorem zf277_38 : fetch 277 38 = some (.if_icmp .ne 5, 3) := by decide +kernel
theorem zf277_43 : fetch 277 43 = some (.iconst 5, 1) := by decide +kernel
theorem zf277_44 : fetch 277 44 = some (.aload_n 0, 1) := by decide +kernel
theorem zf277_45 : fetch 277 45 = some (.getfield 303, 3) := by decide +kernel
theorem zf277_48 : fetch 277 48 = some (.imul, 1) := by decide +kernel
theorem zf277_49 : fetch 277 49 = some (.istore 6, 2) := by decide +kernel
theorem zf277_51 : fetch 277 51 = some (.aload_n 0, 1) := by decide +kernel
theorem zf277_52 : fetch 277 52 = some (.getfield 80, 3) := by decide +kernel
theorem zf277_55 : fetch 277 55 = some (.iload 6, 2) := by decide +kernel
theorem zf277_57 : fetch 277 57 = some (.iload_n 1, 1) := by decide +kernel
theorem zf277_58 : fetch 277 58 = some (.iastore, 1) := by decide +kernel
theorem zf277_59 : fetch 277 59 = some (.aload_n 0, 1) := by decide +kernel
theorem zf277_60 : fetch 277 60 = some (.getfield 80, 3) := by decide +kernel
theorem zf277_63 : fetch 277 63 = some (.iload 6, 2) := by decide +kernel
theorem zf277_65 : fetch 277 65 = some (.iconst 1, 1) := by decide +kernel
theorem zf277_66 : fetch 277 66 = some (.iadd, 1) := by decide +kernel
theorem zf277_67 : fetch 277 67 = some (.iload_n 2, 1) := by decide +kernel
theorem zf277_68 : fetch 277 68 = some (.iastore, 1) := by decide +kernel
theorem zf277_69 : fetch 277 69 = some (.aload_n 0, 1) := by decide +kernel
theorem zf277_70 : fetch 277 70 = some (.getfield 80, 3) := by decide +kernel
theorem zf277_73 : fetch 277 73 = some (.iload 6, 2) := by decide +kernel
theorem zf277_75 : fetch 277 75 = some (.iconst 2, 1) := by decide +kernel
theorem zf277_76 : fetch 277 76 = some (.iadd, 1) := by decide +kernel
theorem zf277_77 : fetch 277 77 = some (.iload_n 3, 1) := by decide +kernel
theorem zf277_78 : fetch 277 78 = some (.iastore, 1) := by decide +kernel
theorem zf277_79 : fetch 277 79 = some (.aload_n 0, 1) := by decide +kernel
theorem zf277_80 : fetch 277 80 = some (.getfield 80, 3) := by decide +kernel
theorem zf277_83 : fetch 277 83 = some (.iload 6, 2) := by decide +kernel
theorem zf277_85 : fetch 277 85 = some (.iconst 3, 1) := by decide +kernel
theorem zf277_86 : fetch 277 86 = some (.iadd, 1) := by decide +kernel
theorem zf277_87 : fetch 277 87 = some (.iload 4, 2) := by decide +kernel
theorem zf277_89 : fetch 277 89 = some (.iastore, 1) := by decide +kernel
theorem zf277_90 : fetch 277 90 = some (.aload_n 0, 1) := by decide +kernel
theorem zf277_91 : fetch 277 91 = some (.getfield 80, 3) := by decide +kernel
theorem zf277_94 : fetch 277 94 = some (.iload 6, 2) := by decide +kernel
theorem zf277_96 : fetch 277 96 = some (.iconst 4, 1) := by decide +kernel
theorem zf277_97 : fetch 277 97 = some (.iadd, 1) := by decide +kernel
theorem zf277_98 : fetch 277 98 = some (.iload 5, 2) := by decide +kernel
theorem zf277_100 : fetch 277 100 = some (.iastore, 1) := by decide +kernel
theorem zf277_101 : fetch 277 101 = some (.aload_n 0, 1) := by decide +kernel
theorem zf277_102 : fetch 277 102 = some (.dup, 1) := by decide +kernel
theorem zf277_103 : fetch 277 103 = some (.getfield 303, 3) := by decide +kernel
theorem zf277_106 : fetch 277 106 = some (.iconst 1, 1) := by decide +kernel
theorem zf277_107 : fetch 277 107 = some (.iadd, 1) := by decide +kernel
theorem zf277_108 : fetch 277 108 = some (.putfield 303, 3) := by decide +kernel
theorem zf277_111 : fetch 277 111 = some (.aload_n 0, 1) := by decide +kernel
theorem zf277_112 : fetch 277 112 = some (.getfield 303, 3) := by decide +kernel
theorem zf277_115 : fetch 277 115 = some (.ireturn, 1) := by decide +kernel
theorem zf278_0 : fetch 278 0 = some (.aload_n 0, 1) := by decide +kernel
theorem zf278_1 : fetch 278 1 = some (.iconst 0, 1) := by decide +kernel
theorem zf278_2 : fetch 278 2 = some (.putfield 96, 3) := by decide +kernel
theorem zf278_5 : fetch 278 5 = some (.aload_n 0, 1) := by decide +kernel
theorem zf278_6 : fetch 278 6 = some (.getfield 294, 3) := by decide +kernel
theorem zf278_9 : fetch 278 9 = some (.ifCond .eq 8, 3) := by decide +kernel
theorem zf278_17 : fetch 278 17 = some (.iconst (-1), 1) := by decide +kernel
theorem zf278_18 : fetch 278 18 = some (.ireturn, 1) := by decide +kernel
theorem zf278_12 : fetch 278 12 = some (.iload_n 1, 1) := by decide +kernel
theorem zf278_13 : fetch 278 13 = some (.iconst (-1), 1) := by decide +kernel
theorem zf278_14 : fetch 278 14 = some (.if_icmp .ge 5, 3) := by decide +kernel
theorem zf278_19 : fetch 278 19 = some (.iconst 0, 1) := by decide +kernel
theorem zf278_20 : fetch 278 20 = some (.istore_n 2, 1) := by decide +kernel
theorem zf278_21 : fetch 278 21 = some (.iconst 0, 1) := by decide +kernel
theorem zf278_22 : fetch 278 22 = some (.istore_n 3, 1) := by decide +kernel
theorem zf280_0 : fetch 280 0 = some (.aload_n 0, 1) := by decide +kernel
theorem zf280_1 : fetch 280 1 = some (.iconst 0, 1) := by decide +kernel
theorem zf280_2 : fetch 280 2 = some (.putfield 96, 3) := by decide +kernel
theorem zf280_5 : fetch 280 5 = some (.aload_n 0, 1) := by decide +kernel
theorem zf280_6 : fetch 280 6 = some (.iload_n 1, 1) := by decide +kernel
theorem zf280_7 : fetch 280 7 = some (.invokevirtual 339, 3) := by decide +kernel
theorem zf280_10 : fetch 280 10 = some (.ifCond .eq 11, 3) := by decide +kernel
theorem zf280_21 : fetch 280 21 = some (.iconst (-1), 1) := by decide +kernel
theorem zf280_22 : fetch 280 22 = some (.ireturn, 1) := by decide +kernel
theorem zf280_13 : fetch 280 13 = some (.aload_n 0, 1) := by decide +kernel
theorem zf280_14 : fetch 280 14 = some (.iload_n 2, 1) := by decide +kernel
theorem zf280_15 : fetch 280 15 = some (.invokevirtual 362, 3) := by decide +kernel
theorem zf280_18 : fetch 280 18 = some (.ifCond .ne 5, 3) := by decide +kernel
theorem zf280_23 : fetch 280 23 = some (.iconst 0, 1) := by decide +kernel
theorem zf280_24 : fetch 280 24 = some (.istore_n 3, 1) := by decide +kernel
theorem zf280_25 : fetch 280 25 = some (.iconst 0, 1) := by decide +kernel
theorem zf280_26 : fetch 280 26 = some (.istore 4, 2) := by decide +kernel
theorem zf281_0 : fetch 281 0 = some (.aload_n 0, 1) := by decide +kernel
theorem zf281_1 : fetch 281 1 = some (.iconst 0, 1) := by decide +kernel
theorem zf281_2 : fetch 281 2 = some (.putfield 96, 3) := by decide +kernel
theorem zf281_5 : fetch 281 5 = some (.aload_n 0, 1) := by decide +kernel
theorem zf281_6 : fetch 281 6 = some (.iload_n 1, 1) := by decide +kernel
theorem zf281_7 : fetch 281 7 = some (.invokevirtual 362, 3) := by decide +kernel
theorem zf281_10 : fetch 281 10 = some (.ifCond .ne 5, 3) := by decide +kernel
theorem zf281_15 : fetch 281 15 = some (.aload_n 0, 1) := by decide +kernel
theorem zf281_16 : fetch 281 16 = some (.invokevirtual 481, 3) := by decide +kernel
theorem zf281_19 : fetch 281 19 = some (.aload_n 0, 1) := by decide +kernel
theorem zf281_20 : fetch 281 20 = some (.iload_n 1, 1) := by decide +kernel
theorem zf281_21 : fetch 281 21 = some (.iconst (-1), 1) := by decide +kernel
theorem zf281_22 : fetch 281 22 = some (.invokevirtual 497, 3) := by decide +kernel
theorem zf281_25 : fetch 281 25 = some (.ireturn, 1) := by decide +kernel
theorem zf281_13 : fetch 281 13 = some (.iconst (-1), 1) := by decide +kernel
theorem zf281_14 : fetch 281 14 = some (.ireturn, 1) := by decide +kernel
theorem zf284_0 : fetch 284 0 = some (.aload_n 0, 1) := by decide +kernel
theorem zf284_1 : fetch 284 1 = some (.iconst 0, 1) := by decide +kernel
theorem zf284_2 : fetch 284 2 = some (.putfield 96, 3) := by decide +kernel
theorem zf284_5 : fetch 284 5 = some (.aload_n 0, 1) := by decide +kernel
theorem zf284_6 : fetch 284 6 = some (.getfield 294, 3) := by decide +kernel
theorem zf284_9 : fetch 284 9 = some (.ifCond .ne 5, 3) := by decide +kernel
theorem zf284_14 : fetch 284 14 = some (.aload_n 0, 1) := by decide +kernel
theorem zf284_15 : fetch 284 15 = some (.invokevirtual 481, 3) := by decide +kernel
theorem zf284_18 : fetch 284 18 = some (.aload_n 0, 1) := by decide +kernel
theorem zf284_19 : fetch 284 19 = some (.iconst 0, 1) := by decide +kernel
theorem zf284_20 : fetch 284 20 = some (.iconst (-1), 1) := by decide +kernel
theorem zf284_21 : fetch 284 21 = some (.invokevirtual 497, 3) := by decide +kernel
theorem zf284_24 : fetch 284 24 = some (.istore_n 1, 1) := by decide +kernel
theorem zf284_25 : fetch 284 25 = some (.iconst 0, 1) := by decide +kernel
theorem zf284_26 : fetch 284 26 = some (.istore_n 2, 1) := by decide +kernel
theorem zf284_27 : fetch 284 27 = some (.iconst 1, 1) := by decide +kernel
theorem zf284_28 : fetch 284 28 = some (.istore_n 3, 1) := by decide +kernel
theorem zf284_12 : fetch 284 12 = some (.iconst (-1), 1) := by decide +kernel
theorem zf284_13 : fetch 284 13 = some (.ireturn, 1) := by decide +kernel
theorem zf285_0 : fetch 285 0 = some (.aload_n 0, 1) := by decide +kernel
theorem zf285_1 : fetch 285 1 = some (.iconst 0, 1) := by decide +kernel
theorem zf285_2 : fetch 285 2 = some (.putfield 96, 3) := by decide +kernel
theorem zf285_5 : fetch 285 5 = some (.aload_n 0, 1) := by decide +kernel
theorem zf285_6 : fetch 285 6 = some (.iload_n 1, 1) := by decide +kernel
theorem zf285_7 : fetch 285 7 = some (.iload_n 2, 1) := by decide +kernel
theorem zf285_8 : fetch 285 8 = some (.iload_n 3, 1) := by decide +kernel
theorem zf285_9 : fetch 285 9 = some (.invokevirtual 500, 3) := by decide +kernel
theorem zf285_12 : fetch 285 12 = some (.ifCond .eq 36, 3) := by decide +kernel
theorem zf285_48 : fetch 285 48 = some (.ldc_w 421, 3) := by decide +kernel
theorem zf285_51 : fetch 285 51 = some (.ireturn, 1) := by decide +kernel
theorem zf285_15 : fetch 285 15 = some (.iload 4, 2) := by decide +kernel
theorem zf285_17 : fetch 285 17 = some (.i2l, 1) := by decide +kernel
theorem zf285_18 : fetch 285 18 = some (.lconst 0, 1) := by decide +kernel
theorem zf285_19 : fetch 285 19 = some (.lconst 1, 1) := by decide +kernel
theorem zf285_20 : fetch 285 20 = some (.invokestatic 217, 3) := by decide +kernel
theorem zf285_23 : fetch 285 23 = some (.ifCond .eq 25, 3) := by decide +kernel
theorem zf285_26 : fetch 285 26 = some (.iload 5, 2) := by decide +kernel
theorem zf285_28 : fetch 285 28 = some (.i2l, 1) := by decide +kernel
theorem zf285_29 : fetch 285 29 = some (.lconst 0, 1) := by decide +kernel
theorem zf285_30 : fetch 285 30 = some (.lconst 1, 1) := by decide +kernel
theorem zf285_31 : fetch 285 31 = some (.invokestatic 217, 3) := by decide +kernel
theorem zf285_34 : fetch 285 34 = some (.ifCond .eq 14, 3) := by decide +kernel
theorem zf285_37 : fetch 285 37 = some (.iload 6, 2) := by decide +kernel
theorem zf285_39 : fetch 285 39 = some (.i2l, 1) := by decide +kernel
theorem zf285_40 : fetch 285 40 = some (.lconst 0, 1) := by decide +kernel
theorem zf285_41 : fetch 285 41 = some (.lconst 1, 1) := by decide +kernel
theorem zf285_42 : fetch 285 42 = some (.invokestatic 217, 3) := by decide +kernel
theorem zf285_45 : fetch 285 45 = some (.ifCond .ne 7, 3) := by decide +kernel
theorem zf285_52 : fetch 285 52 = some (.iload 6, 2) := by decide +kernel
theorem zf285_54 : fetch 285 54 = some (.ifCond .ne 16, 3) := by decide +kernel
theorem zf285_70 : fetch 285 70 = some (.aload_n 0, 1) := by decide +kernel
theorem zf285_71 : fetch 285 71 = some (.iload_n 2, 1) := by decide +kernel
theorem zf285_72 : fetch 285 72 = some (.iload_n 3, 1) := by decide +kernel
theorem zf285_73 : fetch 285 73 = some (.iload 5, 2) := by decide +kernel
theorem zf285_75 : fetch 285 75 = some (.iload 4, 2) := by decide +kernel
theorem zf285_77 : fetch 285 77 = some (.invokevirtual 503, 3) := by decide +kernel
theorem zf285_80 : fetch 285 80 = some (.ireturn, 1) := by decide +kernel
theorem zf285_57 : fetch 285 57 = some (.aload_n 0, 1) := by decide +kernel
theorem zf285_58 : fetch 285 58 = some (.iload_n 1, 1) := by decide +kernel
theorem zf285_59 : fetch 285 59 = some (.iload_n 3, 1) := by decide +kernel
theorem zf285_60 : fetch 285 60 = some (.iload 4, 2) := by decide +kernel
theorem zf285_62 : fetch 285 62 = some (.iload 5, 2) := by decide +kernel
theorem zf285_64 : fetch 285 64 = some (.invokevirtual 503, 3) := by decide +kernel
theorem zf285_67 : fetch 285 67 = some (.goto 13, 3) := by decide +kernel
theorem zf288_0 : fetch 288 0 = some (.aload_n 0, 1) := by decide +kernel
theorem zf288_1 : fetch 288 1 = some (.iconst 0, 1) := by decide +kernel
theorem zf288_2 : fetch 288 2 = some (.putfield 96, 3) := by decide +kernel
theorem zf288_5 : fetch 288 5 = some (.aload_n 0, 1) := by decide +kernel
theorem zf288_6 : fetch 288 6 = some (.iload_n 1, 1) := by decide +kernel
theorem zf288_7 : fetch 288 7 = some (.iload_n 2, 1) := by decide +kernel
theorem zf288_8 : fetch 288 8 = some (.iload_n 3, 1) := by decide +kernel
theorem zf288_9 : fetch 288 9 = some (.invokevirtual 500, 3) := by decide +kernel
theorem zf288_12 : fetch 288 12 = some (.ifCond .eq 9, 3) := by decide +kernel
theorem zf288_21 : fetch 288 21 = some (.iconst (-1), 1) := by decide +kernel
theorem zf288_22 : fetch 288 22 = some (.ireturn, 1) := by decide +kernel
theorem zf288_15 : fetch 288 15 = some (.iload 4, 2) := by decide +kernel
theorem zf288_17 : fetch 288 17 = some (.iconst (-1), 1) := by decide +kernel
theorem zf288_18 : fetch 288 18 = some (.if_icmp .ge 5, 3) := by decide +kernel
theorem zf288_23 : fetch 288 23 = some (.iconst 0, 1) := by decide +kernel
theorem zf288_24 : fetch 288 24 = some (.istore 5, 2) := by decide +kernel
theorem zf288_26 : fetch 288 26 = some (.iconst 0, 1) := by decide +kernel
theorem zf288_27 : fetch 288 27 = some (.istore 6, 2) := by decide +kernel
theorem zf289_0 : fetch 289 0 = some (.aload_n 0, 1) := by decide +kernel
theorem zf289_1 : fetch 289 1 = some (.iconst 0, 1) := by decide +kernel
theorem zf289_2 : fetch 289 2 = some (.putfield 96, 3) := by decide +kernel
theorem zf289_5 : fetch 289 5 = some (.aload_n 0, 1) := by decide +kernel
theorem zf289_6 : fetch 289 6 = some (.iload_n 1, 1) := by decide +kernel
theorem zf289_7 : fetch 289 7 = some (.invokevirtual 362, 3) := by decide +kernel
theorem zf289_10 : fetch 289 10 = some (.ifCond .eq 12, 3) := by decide +kernel
theorem zf289_22 : fetch 289 22 = some (.iconst (-1), 1) := by decide +kernel
theorem zf289_23 : fetch 289 23 = some (.ireturn, 1) := by decide +kernel
theorem zf289_13 : fetch 289 13 = some (.aload_n 0, 1) := by decide +kernel
theorem zf289_14 : fetch 289 14 = some (.getfield 306, 3) := by decide +kernel
theorem zf289_17 : fetch 289 17 = some (.bipush 12, 2) := by decide +kernel
theorem zf289_19 : fetch 289 19 = some (.if_icmp .ne 5, 3) := by decide +kernel
theorem zf289_24 : fetch 289 24 = some (.aload_n 0, 1) := by decide +kernel
theorem zf289_25 : fetch 289 25 = some (.getfield 86, 3) := by decide +kernel
theorem zf289_28 : fetch 289 28 = some (.aload_n 0, 1) := by decide +kernel
theorem zf289_29 : fetch 289 29 = some (.getfield 306, 3) := by decide +kernel
theorem zf289_32 : fetch 289 32 = some (.iload_n 1, 1) := by decide +kernel
theorem zf289_33 : fetch 289 33 = some (.iastore, 1) := by decide +kernel
theorem zf289_34 : fetch 289 34 = some (.aload_n 0, 1) := by decide +kernel
theorem zf289_35 : fetch 289 35 = some (.getfield 89, 3) := by decide +kernel
theorem zf289_38 : fetch 289 38 = some (.aload_n 0, 1) := by decide +kernel
theorem zf289_39 : fetch 289 39 = some (.getfield 306, 3) := by decide +kernel
theorem zf289_42 : fetch 289 42 = some (.iload_n 2, 1) := by decide +kernel
theorem zf289_43 : fetch 289 43 = some (.bastore, 1) := by decide +kernel
theorem zf289_44 : fetch 289 44 = some (.aload_n 0, 1) := by decide +kernel
theorem zf289_45 : fetch 289 45 = some (.dup, 1) := by decide +kernel
theorem zf289_46 : fetch 289 46 = some (.getfield 306, 3) := by decide +kernel
theorem zf289_49 : fetch 289 49 = some (.iconst 1, 1) := by decide +kernel
theorem zf289_50 : fetch 289 50 = some (.iadd, 1) := by decide +kernel
theorem zf289_51 : fetch 289 51 = some (.putfield 306, 3) := by decide +kernel
theorem zf289_54 : fetch 289 54 = some (.aload_n 0, 1) := by decide +kernel
theorem zf289_55 : fetch 289 55 = some (.getfield 306, 3) := by decide +kernel
theorem zf289_58 : fetch 289 58 = some (.ireturn, 1) := by decide +kernel
theorem zf290_0 : fetch 290 0 = some (.aload_n 0, 1) := by decide +kernel
theorem zf290_1 : fetch 290 1 = some (.iconst 0, 1) := by decide +kernel
theorem zf290_2 : fetch 290 2 = some (.putfield 96, 3) := by decide +kernel
theorem zf290_5 : fetch 290 5 = some (.aload_n 0, 1) := by decide +kernel
theorem zf290_6 : fetch 290 6 = some (.iload_n 1, 1) := by decide +kernel
theorem zf290_7 : fetch 290 7 = some (.invokevirtual 362, 3) := by decide +kernel
theorem zf290_10 : fetch 290 10 = some (.ifCond .eq 11, 3) := by decide +kernel
theorem zf290_21 : fetch 290 21 = some (.iconst (-1), 1) := by decide +kernel
theorem zf290_22 : fetch 290 22 = some (.ireturn, 1) := by decide +kernel
theorem zf290_13 : fetch 290 13 = some (.aload_n 0, 1) := by decide +kernel
theorem zf290_14 : fetch 290 14 = some (.iload_n 1, 1) := by decide +kernel
theorem zf290_15 : fetch 290 15 = some (.invokevirtual 511, 3) := by decide +kernel
theorem zf290_18 : fetch 290 18 = some (.goto 4, 3) := by decide +kernel
theorem zf293_0 : fetch 293 0 = some (.aload_n 0, 1) := by decide +kernel
theorem zf293_1 : fetch 293 1 = some (.iconst 0, 1) := by decide +kernel
theorem zf293_2 : fetch 293 2 = some (.putfield 96, 3) := by decide +kernel
theorem zf293_5 : fetch 293 5 = some (.iconst 0, 1) := by decide +kernel
theorem zf293_6 : fetch 293 6 = some (.istore_n 1, 1) := by decide +kernel
theorem zf293_7 : fetch 293 7 = some (.iconst 0, 1) := by decide +kernel
theorem zf293_8 : fetch 293 8 = some (.istore_n 2, 1) := by decide +kernel
theorem zf294_0 : fetch 294 0 = some (.aload_n 0, 1) := by decide +kernel
theorem zf294_1 : fetch 294 1 = some (.iconst 0, 1) := by decide +kernel
theorem zf294_2 : fetch 294 2 = some (.putfield 96, 3) := by decide +kernel
theorem zf294_5 : fetch 294 5 = some (.aload_n 0, 1) := by decide +kernel
theorem zf294_6 : fetch 294 6 = some (.getfield 294, 3) := by decide +kernel
theorem zf294_9 : fetch 294 9 = some (.ifCond .le 27, 3) := by decide +kernel
theorem zf294_36 : fetch 294 36 = some (.iconst (-1), 1) := by decide +kernel
theorem zf294_37 : fetch 294 37 = some (.ireturn, 1) := by decide +kernel
theorem zf294_12 : fetch 294 12 = some (.iload_n 1, 1) := by decide +kernel
theorem zf294_13 : fetch 294 13 = some (.i2l, 1) := by decide +kernel
theorem zf294_14 : fetch 294 14 = some (.lconst 1, 1) := by decide +kernel
theorem zf294_15 : fetch 294 15 = some (.ldc2_w 346, 3) := by decide +kernel
theorem zf294_18 : fetch 294 18 = some (.invokestatic 217, 3) := by decide +kernel
theorem zf294_21 : fetch 294 21 = some (.ifCond .eq 15, 3) := by decide +kernel
theorem zf294_24 : fetch 294 24 = some (.aload_n 0, 1) := by decide +kernel
theorem zf294_25 : fetch 294 25 = some (.getfield 61, 3) := by decide +kernel
theorem zf294_28 : fetch 294 28 = some (.bipush 31, 2) := by decide +kernel
theorem zf294_30 : fetch 294 30 = some (.iaload, 1) := by decide +kernel
theorem zf294_31 : fetch 294 31 = some (.iload_n 1, 1) := by decide +kernel
theorem zf294_32 : fetch 294 32 = some (.idiv, 1) := by decide +kernel
theorem zf294_33 : fetch 294 33 = some (.goto 4, 3) := by decide +kernel
theorem zf295_0 : fetch 295 0 = some (.aload_n 0, 1) := by decide +kernel
theorem zf295_1 : fetch 295 1 = some (.iconst 0, 1) := by decide +kernel
theorem zf295_2 : fetch 295 2 = some (.putfield 96, 3) := by decide +kernel
theorem zf295_5 : fetch 295 5 = some (.aload_n 0, 1) := by decide +kernel
theorem zf295_6 : fetch 295 6 = some (.getfield 294, 3) := by decide +kernel
theorem zf295_9 : fetch 295 9 = some (.ifCond .eq 15, 3) := by decide +kernel
theorem zf295_24 : fetch 295 24 = some (.iconst (-1), 1) := by decide +kernel
theorem zf295_25 : fetch 295 25 = some (.ireturn, 1) := by decide +kernel
theorem zf295_12 : fetch 295 12 = some (.iload_n 1, 1) := by decide +kernel
theorem zf295_13 : fetch 295 13 = some (.i2l, 1) := by decide +kernel
theorem zf295_14 : fetch 295 14 = some (.lconst 0, 1) := by decide +kernel
theorem zf295_15 : fetch 295 15 = some (.ldc2_w 367, 3) := by decide +kernel
theorem zf295_18 : fetch 295 18 = some (.invokestatic 217, 3) := by decide +kernel
theorem zf295_21 : fetch 295 21 = some (.ifCond .ne 5, 3) := by decide +kernel
theorem zf295_26 : fetch 295 26 = some (.aload_n 0, 1) := by decide +kernel
theorem zf295_27 : fetch 295 27 = some (.getfield 61, 3) := by decide +kernel
theorem zf295_30 : fetch 295 30 = some (.aload_n 0, 1) := by decide +kernel
theorem zf295_31 : fetch 295 31 = some (.getfield 64, 3) := by decide +kernel
theorem zf295_34 : fetch 295 34 = some (.invokestatic 425, 3) := by decide +kernel
theorem zf295_37 : fetch 295 37 = some (.iconst 0, 1) := by decide +kernel
theorem zf295_38 : fetch 295 38 = some (.istore_n 2, 1) := by decide +kernel
theorem zf297_0 : fetch 297 0 = some (.aload_n 0, 1) := by decide +kernel
theorem zf297_1 : fetch 297 1 = some (.iconst 0, 1) := by decide +kernel
theorem zf297_2 : fetch 297 2 = some (.putfield 96, 3) := by decide +kernel
theorem zf297_5 : fetch 297 5 = some (.aload_n 0, 1) := by decide +kernel
theorem zf297_6 : fetch 297 6 = some (.getfield 294, 3) := by decide +kernel
theorem zf297_9 : fetch 297 9 = some (.ifCond .eq 13, 3) := by decide +kernel
theorem zf297_22 : fetch 297 22 = some (.iconst (-1), 1) := by decide +kernel
theorem zf297_23 : fetch 297 23 = some (.ireturn, 1) := by decide +kernel
theorem zf297_12 : fetch 297 12 = some (.iload_n 1, 1) := by decide +kernel
theorem zf297_13 : fetch 297 13 = some (.i2l, 1) := by decide +kernel
theorem zf297_14 : fetch 297 14 = some (.lconst 0, 1) := by decide +kernel
theorem zf297_15 : fetch 297 15 = some (.lconst 1, 1) := by decide +kernel
theorem zf297_16 : fetch 297 16 = some (.invokestatic 217, 3) := by decide +kernel
theorem zf297_19 : fetch 297 19 = some (.ifCond .ne 5, 3) := by decide +kernel
theorem zf297_24 : fetch 297 24 = some (.iload_n 1, 1) := by decide +kernel
theorem zf297_25 : fetch 297 25 = some (.iconst 1, 1) := by decide +kernel
theorem zf297_26 : fetch 297 26 = some (.if_icmp .ne 9, 3) := by decide +kernel
theorem zf297_35 : fetch 297 35 = some (.iconst 0, 1) := by decide +kernel
theorem zf297_36 : fetch 297 36 = some (.istore_n 3, 1) := by decide +kernel
theorem zf297_37 : fetch 297 37 = some (.iconst 1, 1) := by decide +kernel
theorem zf297_38 : fetch 297 38 = some (.istore 4, 2) := by decide +kernel
theorem zf297_29 : fetch 297 29 = some (.aload_n 0, 1) := by decide +kernel
theorem zf297_30 : fetch 297 30 = some (.iload_n 2, 1) := by decide +kernel
theorem zf297_31 : fetch 297 31 = some (.invokevirtual 518, 3) := by decide +kernel
theorem zf297_34 : fetch 297 34 = some (.ireturn, 1) := by decide +kernel
theorem zf299_0 : fetch 299 0 = some (.aload_n 0, 1) := by decide +kernel
theorem zf299_1 : fetch 299 1 = some (.iconst 0, 1) := by decide +kernel
theorem zf299_2 : fetch 299 2 = some (.putfield 96, 3) := by decide +kernel
theorem zf299_5 : fetch 299 5 = some (.aload_n 0, 1) := by decide +kernel
theorem zf299_6 : fetch 299 6 = some (.getfield 294, 3) := by decide +kernel
theorem zf299_9 : fetch 299 9 = some (.ifCond .ne 5, 3) := by decide +kernel
theorem zf299_14 : fetch 299 14 = some (.iconst 0, 1) := by decide +kernel
theorem zf299_15 : fetch 299 15 = some (.istore_n 1, 1) := by decide +kernel
theorem zf299_16 : fetch 299 16 = some (.iconst 0, 1) := by decide +kernel
theorem zf299_17 : fetch 299 17 = some (.istore_n 2, 1) := by decide +kernel
theorem zf299_12 : fetch 299 12 = some (.iconst (-1), 1) := by decide +kernel
theorem zf299_13 : fetch 299 13 = some (.ireturn, 1) := by decide +kernel
theorem zf300_0 : fetch 300 0 = some (.aload_n 0, 1) := by decide +kernel
theorem zf300_1 : fetch 300 1 = some (.iconst 0, 1) := by decide +kernel
theorem zf300_2 : fetch 300 2 = some (.putfield 96, 3) := by decide +kernel
theorem zf300_5 : fetch 300 5 = some (.aload_n 0, 1) := by decide +kernel
theorem zf300_6 : fetch 300 6 = some (.iload_n 1, 1) := by decide +kernel
theorem zf300_7 : fetch 300 7 = some (.invokevirtual 362, 3) := by decide +kernel
theorem zf300_10 : fetch 300 10 = some (.ifCond .ne 5, 3) := by decide +kernel
theorem zf300_15 : fetch 300 15 = some (.iconst 0, 1) := by decide +kernel
theorem zf300_16 : fetch 300 16 = some (.istore_n 2, 1) := by decide +kernel
theorem zf300_17 : fetch 300 17 = some (.iconst 0, 1) := by decide +kernel
theorem zf300_18 : fetch 300 18 = some (.istore_n 3, 1) := by decide +kernel
theorem zf300_13 : fetch 300 13 = some (.iconst (-1), 1) := by decide +kernel
theorem zf300_14 : fetch 300 14 = some (.ireturn, 1) := by decide +kernel
theorem zf301_0 : fetch 301 0 = some (.aload_n 0, 1) := by decide +kernel
theorem zf301_1 : fetch 301 1 = some (.iconst 0, 1) := by decide +kernel
theorem zf301_2 : fetch 301 2 = some (.putfield 96, 3) := by decide +kernel
theorem zf301_5 : fetch 301 5 = some (.aload_n 0, 1) := by decide +kernel
theorem zf301_6 : fetch 301 6 = some (.getfield 294, 3) := by decide +kernel
theorem zf301_9 : fetch 301 9 = some (.ifCond .le 23, 3) := by decide +kernel
theorem zf301_32 : fetch 301 32 = some (.iconst (-1), 1) := by decide +kernel
theorem zf301_33 : fetch 301 33 = some (.ireturn, 1) := by decide +kernel
theorem zf301_12 : fetch 301 12 = some (.iload_n 1, 1) := by decide +kernel
theorem zf301_13 : fetch 301 13 = some (.i2l, 1) := by decide +kernel
theorem zf301_14 : fetch 301 14 = some (.lconst 0, 1) := by decide +kernel
theorem zf301_15 : fetch 301 15 = some (.ldc2_w 384, 3) := by decide +kernel
theorem zf301_18 : fetch 301 18 = some (.invokestatic 217, 3) := by decide +kernel
theorem zf301_21 : fetch 301 21 = some (.ifCond .eq 11, 3) := by decide +kernel
theorem zf301_24 : fetch 301 24 = some (.aload_n 0, 1) := by decide +kernel
theorem zf301_25 : fetch 301 25 = some (.iload_n 1, 1) := by decide +kernel
theorem zf301_26 : fetch 301 26 = some (.invokevirtual 484, 3) := by decide +kernel
theorem zf301_29 : fetch 301 29 = some (.goto 4, 3) := by decide +kernel
theorem zf302_0 : fetch 302 0 = some (.aload_n 0, 1) := by decide +kernel
theorem zf302_1 : fetch 302 1 = some (.iconst 0, 1) := by decide +kernel
theorem zf302_2 : fetch 302 2 = some (.putfield 96, 3) := by decide +kernel
theorem zf302_5 : fetch 302 5 = some (.aload_n 0, 1) := by decide +kernel
theorem zf302_6 : fetch 302 6 = some (.iload_n 1, 1) := by decide +kernel
theorem zf302_7 : fetch 302 7 = some (.iload_n 2, 1) := by decide +kernel
theorem zf302_8 : fetch 302 8 = some (.iload_n 3, 1) := by decide +kernel
theorem zf302_9 : fetch 302 9 = some (.iload 4, 2) := by decide +kernel
theorem zf302_11 : fetch 302 11 = some (.invokevirtual 439, 3) := by decide +kernel
theorem zf302_14 : fetch 302 14 = some (.ifCond .eq 16, 3) := by decide +kernel
theorem zf302_30 : fetch 302 30 = some (.iconst (-1), 1) := by decide +kernel
theorem zf302_31 : fetch 302 31 = some (.ireturn, 1) := by decide +kernel
theorem zf302_17 : fetch 302 17 = some (.iload 5, 2) := by decide +kernel
theorem zf302_19 : fetch 302 19 = some (.i2l, 1) := by decide +kernel
theorem zf302_20 : fetch 302 20 = some (.lconst 0, 1) := by decide +kernel
theorem zf302_21 : fetch 302 21 = some (.ldc2_w 489, 3) := by decide +kernel
theorem zf302_24 : fetch 302 24 = some (.invokestatic 217, 3) := by decide +kernel
theorem zf302_27 : fetch 302 27 = some (.ifCond .ne 5, 3) := by decide +kernel
theorem zf302_32 : fetch 302 32 = some (.aload_n 0, 1) := by decide +kernel
theorem zf302_33 : fetch 302 33 = some (.aload_n 0, 1) := by decide +kernel
theorem zf302_34 : fetch 302 34 = some (.aload_n 0, 1) := by decide +kernel
theorem zf302_35 : fetch 302 35 = some (.getfield 61, 3) := by decide +kernel
theorem zf302_38 : fetch 302 38 = some (.iload_n 1, 1) := by decide +kernel
theorem zf302_39 : fetch 302 39 = some (.iload_n 2, 1) := by decide +kernel
theorem zf302_40 : fetch 302 40 = some (.iload_n 3, 1) := by decide +kernel
theorem zf302_41 : fetch 302 41 = some (.iload 4, 2) := by decide +kernel
theorem zf302_43 : fetch 302 43 = some (.invokevirtual 348, 3) := by decide +kernel
theorem zf302_46 : fetch 302 46 = some (.invokevirtual 352, 3) := by decide +kernel
theorem zf302_49 : fetch 302 49 = some (.iconst (-1), 1) := by decide +kernel
theorem zf302_50 : fetch 302 50 = some (.if_icmp .ne 7, 3) := by decide +kernel
theorem zf302_57 : fetch 302 57 = some (.bipush 100, 2) := by decide +kernel
theorem zf302_59 : fetch 302 59 = some (.iload 5, 2) := by decide +kernel
theorem zf302_61 : fetch 302 61 = some (.isub, 1) := by decide +kernel
theorem zf302_53 : fetch 302 53 = some (.iconst 0, 1) := by decide +kernel
theorem zf302_54 : fetch 302 54 = some (.goto 8, 3) := by decide +kernel
theorem zf303_0 : fetch 303 0 = some (.aload_n 0, 1) := by decide +kernel
theorem zf303_1 : fetch 303 1 = some (.iconst 0, 1) := by decide +kernel
theorem zf303_2 : fetch 303 2 = some (.putfield 96, 3) := by decide +kernel
theorem zf303_5 : fetch 303 5 = some (.aload_n 0, 1) := by decide +kernel
theorem zf303_6 : fetch 303 6 = some (.aload_n 0, 1) := by decide +kernel
theorem zf303_7 : fetch 303 7 = some (.getfield 61, 3) := by decide +kernel
theorem zf303_10 : fetch 303 10 = some (.iload_n 1, 1) := by decide +kernel
theorem zf303_11 : fetch 303 11 = some (.invokevirtual 342, 3) := by decide +kernel
theorem zf303_14 : fetch 303 14 = some (.ifCond .eq 41, 3) := by decide +kernel
theorem zf303_55 : fetch 303 55 = some (.iconst (-1), 1) := by decide +kernel
theorem zf303_56 : fetch 303 56 = some (.ireturn, 1) := by decide +kernel
theorem zf303_17 : fetch 303 17 = some (.aload_n 0, 1) := by decide +kernel
theorem zf303_18 : fetch 303 18 = some (.aload_n 0, 1) := by decide +kernel
theorem zf303_19 : fetch 303 19 = some (.getfield 61, 3) := by decide +kernel
theorem zf303_22 : fetch 303 22 = some (.iload_n 2, 1) := by decide +kernel
theorem zf303_23 : fetch 303 23 = some (.invokevirtual 342, 3) := by decide +kernel
theorem zf303_26 : fetch 303 26 = some (.ifCond .eq 29, 3) := by decide +kernel
theorem zf303_29 : fetch 303 29 = some (.iload_n 1, 1) := by decide +kernel
theorem zf303_30 : fetch 303 30 = some (.iload_n 2, 1) := by decide +kernel
theorem zf303_31 : fetch 303 31 = some (.if_icmp .eq 24, 3) := by decide +kernel
theorem zf303_34 : fetch 303 34 = some (.aload_n 0, 1) := by decide +kernel
theorem zf303_35 : fetch 303 35 = some (.getfield 61, 3) := by decide +kernel
theorem zf303_38 : fetch 303 38 = some (.iload_n 1, 1) := by decide +kernel
theorem zf303_39 : fetch 303 39 = some (.invokestatic 300, 3) := by decide +kernel
theorem zf303_42 : fetch 303 42 = some (.iaload, 1) := by decide +kernel
theorem zf303_43 : fetch 303 43 = some (.aload_n 0, 1) := by decide +kernel
theorem zf303_44 : fetch 303 44 = some (.getfield 61, 3) := by decide +kernel
theorem zf303_47 : fetch 303 47 = some (.iload_n 2, 1) := by decide +kernel
theorem zf303_48 : fetch 303 48 = some (.invokestatic 300, 3) := by decide +kernel
theorem zf303_51 : fetch 303 51 = some (.iaload, 1) := by decide +kernel
theorem zf303_52 : fetch 303 52 = some (.if_icmp .ne 5, 3) := by decide +kernel
theorem zf303_57 : fetch 303 57 = some (.aload_n 0, 1) := by decide +kernel
theorem zf303_58 : fetch 303 58 = some (.iload_n 1, 1) := by decide +kernel
theorem zf303_59 : fetch 303 59 = some (.invokevirtual 443, 3) := by decide +kernel
theorem zf303_62 : fetch 303 62 = some (.aload_n 0, 1) := by decide +kernel
theorem zf303_63 : fetch 303 63 = some (.iload_n 2, 1) := by decide +kernel
theorem zf303_64 : fetch 303 64 = some (.invokevirtual 443, 3) := by decide +kernel
theorem zf303_67 : fetch 303 67 = some (.aload_n 0, 1) := by decide +kernel
theorem zf303_68 : fetch 303 68 = some (.iload_n 1, 1) := by decide +kernel
theorem zf303_69 : fetch 303 69 = some (.aload_n 0, 1) := by decide +kernel
theorem zf303_70 : fetch 303 70 = some (.getfield 61, 3) := by decide +kernel
theorem zf303_73 : fetch 303 73 = some (.iload_n 1, 1) := by decide +kernel
theorem zf303_74 : fetch 303 74 = some (.invokestatic 300, 3) := by decide +kernel
theorem zf303_77 : fetch 303 77 = some (.iaload, 1) := by decide +kernel
theorem zf303_78 : fetch 303 78 = some (.aload_n 0, 1) := by decide +kernel
theorem zf303_79 : fetch 303 79 = some (.getfield 61, 3) := by decide +kernel
theorem zf303_82 : fetch 303 82 = some (.iload_n 2, 1) := by decide +kernel
theorem zf303_83 : fetch 303 83 = some (.invokestatic 300, 3) := by decide +kernel
theorem zf303_86 : fetch 303 86 = some (.iaload, 1) := by decide +kernel
theorem zf303_87 : fetch 303 87 = some (.invokevirtual 446, 3) := by decide +kernel
theorem zf303_90 : fetch 303 90 = some (.istore_n 3, 1) := by decide +kernel
theorem zf303_91 : fetch 303 91 = some (.aload_n 0, 1) := by decide +kernel
theorem zf303_92 : fetch 303 92 = some (.iload_n 2, 1) := by decide +kernel
theorem zf303_93 : fetch 303 93 = some (.aload_n 0, 1) := by decide +kernel
theorem zf303_94 : fetch 303 94 = some (.getfield 61, 3) := by decide +kernel
theorem zf303_97 : fetch 303 97 = some (.iload_n 2, 1) := by decide +kernel
theorem zf303_98 : fetch 303 98 = some (.invokestatic 300, 3) := by decide +kernel
theorem zf303_101 : fetch 303 101 = some (.iaload, 1) := by decide +kernel
theorem zf303_102 : fetch 303 102 = some (.aload_n 0, 1) := by decide +kernel
theorem zf303_103 : fetch 303 103 = some (.getfield 61, 3) := by decide +kernel
theorem zf303_106 : fetch 303 106 = some (.iload_n 1, 1) := by decide +kernel
theorem zf303_107 : fetch 303 107 = some (.invokestatic 300, 3) := by decide +kernel
theorem zf303_110 : fetch 303 110 = some (.iaload, 1) := by decide +kernel
theorem zf303_111 : fetch 303 111 = some (.invokevirtual 446, 3) := by decide +kernel
theorem zf303_114 : fetch 303 114 = some (.istore 4, 2) := by decide +kernel
theorem zf303_116 : fetch 303 116 = some (.iload_n 3, 1) := by decide +kernel
theorem zf303_117 : fetch 303 117 = some (.ifCond .eq 8, 3) := by decide +kernel
theorem zf303_125 : fetch 303 125 = some (.iconst (-1), 1) := by decide +kernel
theorem zf303_126 : fetch 303 126 = some (.ireturn, 1) := by decide +kernel
theorem zf303_120 : fetch 303 120 = some (.iload 4, 2) := by decide +kernel
theorem zf303_122 : fetch 303 122 = some (.ifCond .ne 5, 3) := by decide +kernel
theorem zf303_127 : fetch 303 127 = some (.aload_n 0, 1) := by decide +kernel
theorem zf303_128 : fetch 303 128 = some (.iload_n 1, 1) := by decide +kernel
theorem zf303_129 : fetch 303 129 = some (.iconst 0, 1) := by decide +kernel
theorem zf303_130 : fetch 303 130 = some (.invokevirtual 315, 3) := by decide +kernel
theorem zf303_133 : fetch 303 133 = some (.iload_n 3, 1) := by decide +kernel
theorem zf303_134 : fetch 303 134 = some (.iadd, 1) := by decide +kernel
theorem zf303_135 : fetch 303 135 = some (.aload_n 0, 1) := by decide +kernel
theorem zf303_136 : fetch 303 136 = some (.iload_n 2, 1) := by decide +kernel
theorem zf303_137 : fetch 303 137 = some (.iconst 0, 1) := by decide +kernel
theorem zf303_138 : fetch 303 138 = some (.invokevirtual 315, 3) := by decide +kernel
theorem zf303_141 : fetch 303 141 = some (.isub, 1) := by decide +kernel
theorem zf303_142 : fetch 303 142 = some (.iload 4, 2) := by decide +kernel
theorem zf303_144 : fetch 303 144 = some (.isub, 1) := by decide +kernel
theorem zf303_145 : fetch 303 145 = some (.istore 5, 2) := by decide +kernel
theorem zf303_147 : fetch 303 147 = some (.iload 5, 2) := by decide +kernel
theorem zf303_149 : fetch 303 149 = some (.ifCond .le 7, 3) := by decide +kernel
theorem zf303_156 : fetch 303 156 = some (.iload 5, 2) := by decide +kernel
theorem zf303_158 : fetch 303 158 = some (.ifCond .ge 7, 3) := by decide +kernel
theorem zf303_165 : fetch 303 165 = some (.iconst 0, 1) := by decide +kernel
theorem zf303_166 : fetch 303 166 = some (.ireturn, 1) := by decide +kernel
theorem zf303_161 : fetch 303 161 = some (.iconst 2, 1) := by decide +kernel
theorem zf303_162 : fetch 303 162 = some (.goto 4, 3) := by decide +kernel
theorem zf303_152 : fetch 303 152 = some (.iconst 1, 1) := by decide +kernel
theorem zf303_153 : fetch 303 153 = some (.goto 13, 3) := by decide +kernel
theorem zf304_0 : fetch 304 0 = some (.aload_n 0, 1) := by decide +kernel
theorem zf304_1 : fetch 304 1 = some (.iconst 0, 1) := by decide +kernel
theorem zf304_2 : fetch 304 2 = some (.putfield 96, 3) := by decide +kernel
theorem zf304_5 : fetch 304 5 = some (.aload_n 0, 1) := by decide +kernel
theorem zf304_6 : fetch 304 6 = some (.getfield 294, 3) := by decide +kernel
theorem zf304_9 : fetch 304 9 = some (.ifCond .ne 5, 3) := by decide +kernel
theorem zf304_14 : fetch 304 14 = some (.aload_n 0, 1) := by decide +kernel
theorem zf304_15 : fetch 304 15 = some (.getfield 61, 3) := by decide +kernel
theorem zf304_18 : fetch 304 18 = some (.aload_n 0, 1) := by decide +kernel
theorem zf304_19 : fetch 304 19 = some (.getfield 93, 3) := by decide +kernel
theorem zf304_22 : fetch 304 22 = some (.invokestatic 425, 3) := by decide +kernel
theorem zf304_25 : fetch 304 25 = some (.aload_n 0, 1) := by decide +kernel
theorem zf304_26 : fetch 304 26 = some (.iconst 1, 1) := by decide +kernel
theorem zf304_27 : fetch 304 27 = some (.putfield 312, 3) := by decide +kernel
theorem zf304_30 : fetch 304 30 = some (.aload_n 0, 1) := by decide +kernel
theorem zf304_31 : fetch 304 31 = some (.getfield 61, 3) := by decide +kernel
theorem zf304_34 : fetch 304 34 = some (.bipush 35, 2) := by decide +kernel
theorem zf304_36 : fetch 304 36 = some (.iaload, 1) := by decide +kernel
theorem zf304_37 : fetch 304 37 = some (.ireturn, 1) := by decide +kernel
theorem zf304_12 : fetch 304 12 = some (.iconst (-1), 1) := by decide +kernel
theorem zf304_13 : fetch 304 13 = some (.ireturn, 1) := by decide +kernel
theorem zf305_0 : fetch 305 0 = some (.aload_n 0, 1) := by decide +kernel
theorem zf305_1 : fetch 305 1 = some (.iconst 0, 1) := by decide +kernel
theorem zf305_2 : fetch 305 2 = some (.putfield 96, 3) := by decide +kernel
theorem zf305_5 : fetch 305 5 = some (.aload_n 0, 1) := by decide +kernel
theorem zf305_6 : fetch 305 6 = some (.getfield 312, 3) := by decide +kernel
theorem zf305_9 : fetch 305 9 = some (.ifCond .ne 5, 3) := by decide +kernel
theorem zf305_14 : fetch 305 14 = some (.aload_n 0, 1) := by decide +kernel
theorem zf305_15 : fetch 305 15 = some (.getfield 93, 3) := by decide +kernel
theorem zf305_18 : fetch 305 18 = some (.aload_n 0, 1) := by decide +kernel
theorem zf305_19 : fetch 305 19 = some (.getfield 61, 3) := by decide +kernel
theorem zf305_22 : fetch 305 22 = some (.invokestatic 425, 3) := by decide +kernel
theorem zf305_25 : fetch 305 25 = some (.aload_n 0, 1) := by decide +kernel
theorem zf305_26 : fetch 305 26 = some (.iconst 0, 1) := by decide +kernel
theorem zf305_27 : fetch 305 27 = some (.putfield 309, 3) := by decide +kernel
theorem zf305_30 : fetch 305 30 = some (.aload_n 0, 1) := by decide +kernel
theorem zf305_31 : fetch 305 31 = some (.getfield 61, 3) := by decide +kernel
theorem zf305_34 : fetch 305 34 = some (.bipush 35, 2) := by decide +kernel
theorem zf305_36 : fetch 305 36 = some (.iaload, 1) := by decide +kernel
theorem zf305_37 : fetch 305 37 = some (.ireturn, 1) := by decide +kernel
theorem zf305_12 : fetch 305 12 = some (.iconst (-1), 1) := by decide +kernel
theorem zf305_13 : fetch 305 13 = some (.ireturn, 1) := by decide +kernel
theorem zf306_0 : fetch 306 0 = some (.aload_n 0, 1) := by decide +kernel
theorem zf306_1 : fetch 306 1 = some (.iconst 0, 1) := by decide +kernel
theorem zf306_2 : fetch 306 2 = some (.putfield 96, 3) := by decide +kernel
theorem zf306_5 : fetch 306 5 = some (.iconst 0, 1) := by decide +kernel
theorem zf306_6 : fetch 306 6 = some (.istore_n 2, 1) := by decide +kernel
theorem zf306_7 : fetch 306 7 = some (.iload_n 1, 1) := by decide +kernel
theorem zf306_8 : fetch 306 8 = some (.tableswitch 199 0 13 #[72, 77, 82, 87, 92, 97, 102, 110, 139, 171, 176, 181, 186, 194], 72) := by decide +kernel
theorem zf306_80 : fetch 306 80 = some (.aload_n 0, 1) := by decide +kernel
theorem zf306_81 : fetch 306 81 = some (.getfield 294, 3) := by decide +kernel
theorem zf306_84 : fetch 306 84 = some (.ireturn, 1) := by decide +kernel
theorem zf306_85 : fetch 306 85 = some (.aload_n 0, 1) := by decide +kernel
theorem zf306_86 : fetch 306 86 = some (.getfield 297, 3) := by decide +kernel
theorem zf306_89 : fetch 306 89 = some (.ireturn, 1) := by decide +kernel
theorem zf306_90 : fetch 306 90 = some (.aload_n 0, 1) := by decide +kernel
theorem zf306_91 : fetch 306 91 = some (.getfield 286, 3) := by decide +kernel
theorem zf306_94 : fetch 306 94 = some (.ireturn, 1) := by decide +kernel
theorem zf306_95 : fetch 306 95 = some (.aload_n 0, 1) := by decide +kernel
theorem zf306_96 : fetch 306 96 = some (.getfield 289, 3) := by decide +kernel
theorem zf306_99 : fetch 306 99 = some (.ireturn, 1) := by decide +kernel
theorem zf306_100 : fetch 306 100 = some (.aload_n 0, 1) := by decide +kernel
theorem zf306_101 : fetch 306 101 = some (.getfield 109, 3) := by decide +kernel
theorem zf306_104 : fetch 306 104 = some (.ireturn, 1) := by decide +kernel
theorem zf306_105 : fetch 306 105 = some (.aload_n 0, 1) := by decide +kernel
theorem zf306_106 : fetch 306 106 = some (.getfield 67, 3) := by decide +kernel
theorem zf306_109 : fetch 306 109 = some (.ireturn, 1) := by decide +kernel
theorem zf306_110 : fetch 306 110 = some (.aload_n 0, 1) := by decide +kernel
theorem zf306_111 : fetch 306 111 = some (.getfield 61, 3) := by decide +kernel
theorem zf306_114 : fetch 306 114 = some (.bipush 35, 2) := by decide +kernel
theorem zf306_116 : fetch 306 116 = some (.iaload, 1) := by decide +kernel
theorem zf306_117 : fetch 306 117 = some (.ireturn, 1) := by decide +kernel
theorem zf306_118 : fetch 306 118 = some (.iconst 0, 1) := by decide +kernel
theorem zf306_119 : fetch 306 119 = some (.istore_n 3, 1) := by decide +kernel
theorem zf306_147 : fetch 306 147 = some (.iconst 0, 1) := by decide +kernel
theorem zf306_148 : fetch 306 148 = some (.istore_n 3, 1) := by decide +kernel
theorem zf306_179 : fetch 306 179 = some (.aload_n 0, 1) := by decide +kernel
theorem zf306_180 : fetch 306 180 = some (.getfield 369, 3) := by decide +kernel
theorem zf306_183 : fetch 306 183 = some (.ireturn, 1) := by decide +kernel
theorem zf306_184 : fetch 306 184 = some (.aload_n 0, 1) := by decide +kernel
theorem zf306_185 : fetch 306 185 = some (.getfield 303, 3) := by decide +kernel
theorem zf306_188 : fetch 306 188 = some (.ireturn, 1) := by decide +kernel
theorem zf306_189 : fetch 306 189 = some (.aload_n 0, 1) := by decide +kernel
theorem zf306_190 : fetch 306 190 = some (.getfield 306, 3) := by decide +kernel
theorem zf306_193 : fetch 306 193 = some (.ireturn, 1) := by decide +kernel
theorem zf306_194 : fetch 306 194 = some (.aload_n 0, 1) := by decide +kernel
theorem zf306_195 : fetch 306 195 = some (.getfield 61, 3) := by decide +kernel
theorem zf306_198 : fetch 306 198 = some (.bipush 36, 2) := by decide +kernel
theorem zf306_200 : fetch 306 200 = some (.iaload, 1) := by decide +kernel
theorem zf306_201 : fetch 306 201 = some (.ireturn, 1) := by decide +kernel
theorem zf306_202 : fetch 306 202 = some (.aload_n 0, 1) := by decide +kernel
theorem zf306_203 : fetch 306 203 = some (.getfield 309, 3) := by decide +kernel
theorem zf306_206 : fetch 306 206 = some (.ireturn, 1) := by decide +kernel
theorem zf306_207 : fetch 306 207 = some (.ldc_w 421, 3) := by decide +kernel
theorem zf306_210 : fetch 306 210 = some (.ireturn, 1) := by decide +kernel
theorem zf1_0 : fetch 1 0 = some (.iconst 0, 1) := by decide +kernel
theorem zf1_1 : fetch 1 1 = some (.istore_n 1, 1) := by decide +kernel
theorem zf1_2 : fetch 1 2 = some (.bipush 24, 2) := by decide +kernel
theorem zf1_4 : fetch 1 4 = some (.istore_n 2, 1) := by decide +kernel
theorem zf2_0 : fetch 2 0 = some (.bipush 24, 2) := by decide +kernel
theorem zf2_2 : fetch 2 2 = some (.istore_n 2, 1) := by decide +kernel
theorem zf5_0 : fetch 5 0 = some (.aload_n 0, 1) := by decide +kernel
theorem zf5_1 : fetch 5 1 = some (.getfield 18, 3) := by decide +kernel
theorem zf5_4 : fetch 5 4 = some (.iconst 0, 1) := by decide +kernel
theorem zf5_5 : fetch 5 5 = some (.putfield 22, 3) := by decide +kernel
theorem zf5_8 : fetch 5 8 = some (.aload_n 0, 1) := by decide +kernel
theorem zf5_9 : fetch 5 9 = some (.invokevirtual 28, 3) := by decide +kernel
theorem zf5_12 : fetch 5 12 = some (.ifCond .eq 7, 3) := by decide +kernel
theorem zf5_19 : fetch 5 19 = some (.aload_n 0, 1) := by decide +kernel
theorem zf5_20 : fetch 5 20 = some (.getfield 18, 3) := by decide +kernel
theorem zf5_23 : fetch 5 23 = some (.getfield 22, 3) := by decide +kernel
theorem zf5_26 : fetch 5 26 = some (.ireturn, 1) := by decide +kernel
theorem zf5_15 : fetch 5 15 = some (.iconst (-1), 1) := by decide +kernel
theorem zf5_16 : fetch 5 16 = some (.goto 10, 3) := by decide +kernel
theorem zf22_0 : fetch 22 0 = some (.aload_n 0, 1) := by decide +kernel
theorem zf22_1 : fetch 22 1 = some (.getfield 17, 3) := by decide +kernel
theorem zf22_4 : fetch 22 4 = some (.iconst 0, 1) := by decide +kernel
theorem zf22_5 : fetch 22 5 = some (.putfield 21, 3) := by decide +kernel
theorem zf22_8 : fetch 22 8 = some (.aload_n 0, 1) := by decide +kernel
theorem zf22_9 : fetch 22 9 = some (.iconst 0, 1) := by decide +kernel
theorem zf22_10 : fetch 22 10 = some (.putfield 25, 3) := by decide +kernel
theorem zf22_13 : fetch 22 13 = some (.iconst 0, 1) := by decide +kernel
theorem zf22_14 : fetch 22 14 = some (.istore_n 1, 1) := by decide +kernel
theorem zf38_0 : fetch 38 0 = some (.aload_n 0, 1) := by decide +kernel
theorem zf38_1 : fetch 38 1 = some (.getfield 23, 3) := by decide +kernel
theorem zf38_4 : fetch 38 4 = some (.iconst 0, 1) := by decide +kernel
theorem zf38_5 : fetch 38 5 = some (.putfield 44, 3) := by decide +kernel
theorem zf38_8 : fetch 38 8 = some (.iconst 0, 1) := by decide +kernel
theorem zf38_9 : fetch 38 9 = some (.istore_n 1, 1) := by decide +kernel
theorem zf44_27 : fetch 44 27 = some (.iload_n 1, 1) := by decide +kernel
theorem zf44_28 : fetch 44 28 = some (.iconst 1, 1) := by decide +kernel
theorem zf44_29 : fetch 44 29 = some (.if_icmp .ne 54, 3) := by decide +kernel
theorem zf44_32 : fetch 44 32 = some (.aload_n 0, 1) := by decide +kernel
theorem zf44_33 : fetch 44 33 = some (.getfield 42, 3) := by decide +kernel
theorem zf44_36 : fetch 44 36 = some (.invokevirtual 122, 3) := by decide +kernel
theorem zf44_39 : fetch 44 39 = some (.ifCond .eq 44, 3) := by decide +kernel
theorem zf44_42 : fetch 44 42 = some (.aload_n 0, 1) := by decide +kernel
theorem zf44_43 : fetch 44 43 = some (.getfield 35, 3) := by decide +kernel
theorem zf44_46 : fetch 44 46 = some (.invokevirtual 114, 3) := by decide +kernel
theorem zf44_49 : fetch 44 49 = some (.iconst (-1), 1) := by decide +kernel
theorem zf44_50 : fetch 44 50 = some (.if_icmp .ne 33, 3) := by decide +kernel
theorem zf44_53 : fetch 44 53 = some (.aload_n 0, 1) := by decide +kernel
theorem zf44_54 : fetch 44 54 = some (.getfield 10, 3) := by decide +kernel
theorem zf44_57 : fetch 44 57 = some (.iconst 0, 1) := by decide +kernel
theorem zf44_58 : fetch 44 58 = some (.putfield 102, 3) := by decide +kernel
theorem zf44_61 : fetch 44 61 = some (.aload_n 0, 1) := by decide +kernel
theorem zf44_62 : fetch 44 62 = some (.getfield 42, 3) := by decide +kernel
theorem zf44_65 : fetch 44 65 = some (.aload_n 0, 1) := by decide +kernel
theorem zf44_66 : fetch 44 66 = some (.getfield 35, 3) := by decide +kernel
theorem zf44_69 : fetch 44 69 = some (.getfield 126, 3) := by decide +kernel
theorem zf44_72 : fetch 44 72 = some (.aload_n 0, 1) := by decide +kernel
theorem zf44_73 : fetch 44 73 = some (.getfield 35, 3) := by decide +kernel
theorem zf44_76 : fetch 44 76 = some (.getfield 130, 3) := by decide +kernel
theorem zf44_79 : fetch 44 79 = some (.invokevirtual 133, 3) := by decide +kernel
theorem zf44_82 : fetch 44 82 = some (.ireturn, 1) := by decide +kernel
theorem zf45_0 : fetch 45 0 = some (.aload_n 0, 1) := by decide +kernel
theorem zf45_1 : fetch 45 1 = some (.getfield 10, 3) := by decide +kernel
theorem zf45_4 : fetch 45 4 = some (.iconst 0, 1) := by decide +kernel
theorem zf45_5 : fetch 45 5 = some (.putfield 102, 3) := by decide +kernel
theorem zf45_8 : fetch 45 8 = some (.aload_n 0, 1) := by decide +kernel
theorem zf45_9 : fetch 45 9 = some (.getfield 19, 3) := by decide +kernel
theorem zf45_12 : fetch 45 12 = some (.aload_n 0, 1) := by decide +kernel
theorem zf45_13 : fetch 45 13 = some (.getfield 28, 3) := by decide +kernel
theorem zf45_16 : fetch 45 16 = some (.getfield 140, 3) := by decide +kernel
theorem zf45_19 : fetch 45 19 = some (.invokevirtual 143, 3) := by decide +kernel
theorem zf45_22 : fetch 45 22 = some (.aload_n 0, 1) := by decide +kernel
theorem zf45_23 : fetch 45 23 = some (.getfield 88, 3) := by decide +kernel
theorem zf45_26 : fetch 45 26 = some (.aload_n 0, 1) := by decide +kernel
theorem zf45_27 : fetch 45 27 = some (.getfield 19, 3) := by decide +kernel
theorem zf45_30 : fetch 45 30 = some (.invokevirtual 147, 3) := by decide +kernel
theorem zf45_33 : fetch 45 33 = some (.aload_n 0, 1) := by decide +kernel
theorem zf45_34 : fetch 45 34 = some (.getfield 81, 3) := by decide +kernel
theorem zf45_37 : fetch 45 37 = some (.invokevirtual 150, 3) := by decide +kernel
theorem zf45_40 : fetch 45 40 = some (.aload_n 0, 1) := by decide +kernel
theorem zf45_41 : fetch 45 41 = some (.getfield 74, 3) := by decide +kernel
theorem zf45_44 : fetch 45 44 = some (.invokevirtual 153, 3) := by decide +kernel
theorem zf45_47 : fetch 45 47 = some (.aload_n 0, 1) := by decide +kernel
theorem zf45_48 : fetch 45 48 = some (.getfield 58, 3) := by decide +kernel
theorem zf45_51 : fetch 45 51 = some (.invokevirtual 154, 3) := by decide +kernel
theorem zf45_54 : fetch 45 54 = some (.aload_n 0, 1) := by decide +kernel
theorem zf45_55 : fetch 45 55 = some (.iconst 0, 1) := by decide +kernel
theorem zf45_56 : fetch 45 56 = some (.putfield 155, 3) := by decide +kernel
theorem zf45_59 : fetch 45 59 = some (.return_, 1) := by decide +kernel
theorem zf61_0 : fetch 61 0 = some (.aload_n 0, 1) := by decide +kernel
theorem zf61_1 : fetch 61 1 = some (.getfield 27, 3) := by decide +kernel
theorem zf61_4 : fetch 61 4 = some (.ifCond .le 7, 3) := by decide +kernel
theorem zf61_11 : fetch 61 11 = some (.iconst 0, 1) := by decide +kernel
theorem zf61_12 : fetch 61 12 = some (.ireturn, 1) := by decide +kernel
theorem zf61_7 : fetch 61 7 = some (.iconst 1, 1) := by decide +kernel
theorem zf61_8 : fetch 61 8 = some (.goto 4, 3) := by decide +kernel
theorem zf62_0 : fetch 62 0 = some (.aload_n 0, 1) := by decide +kernel
theorem zf62_1 : fetch 62 1 = some (.getfield 11, 3) := by decide +kernel
theorem zf62_4 : fetch 62 4 = some (.iconst 3, 1) := by decide +kernel
theorem zf62_5 : fetch 62 5 = some (.iaload, 1) := by decide +kernel
theorem zf62_6 : fetch 62 6 = some (.ireturn, 1) := by decide +kernel
theorem zf20_0 : fetch 20 0 = some (.iload_n 1, 1) := by decide +kernel
theorem zf20_1 : fetch 20 1 = some (.ifCond .lt 15, 3) := by decide +kernel
theorem zf20_16 : fetch 20 16 = some (.iconst 0, 1) := by decide +kernel
theorem zf20_17 : fetch 20 17 = some (.ireturn, 1) := by decide +kernel
theorem zf20_4 : fetch 20 4 = some (.iload_n 1, 1) := by decide +kernel
theorem zf20_5 : fetch 20 5 = some (.aload_n 0, 1) := by decide +kernel
theorem zf20_6 : fetch 20 6 = some (.getfield 27, 3) := by decide +kernel
theorem zf20_9 : fetch 20 9 = some (.if_icmp .ge 7, 3) := by decide +kernel
theorem zf20_12 : fetch 20 12 = some (.iconst 1, 1) := by decide +kernel
theorem zf20_13 : fetch 20 13 = some (.goto 4, 3) := by decide +kernel
theorem zf18_0 : fetch 18 0 = some (.aload_n 0, 1) := by decide +kernel
theorem zf18_1 : fetch 18 1 = some (.getfield 15, 3) := by decide +kernel
theorem zf18_4 : fetch 18 4 = some (.iload_n 1, 1) := by decide +kernel
theorem zf18_5 : fetch 18 5 = some (.iconst 3, 1) := by decide +kernel
theorem zf18_6 : fetch 18 6 = some (.imul, 1) := by decide +kernel
theorem zf18_7 : fetch 18 7 = some (.iaload, 1) := by decide +kernel
theorem zf18_8 : fetch 18 8 = some (.ireturn, 1) := by decide +kernel
theorem zf64_0 : fetch 64 0 = some (.aload_n 0, 1) := by decide +kernel
theorem zf64_1 : fetch 64 1 = some (.getfield 15, 3) := by decide +kernel
theorem zf64_4 : fetch 64 4 = some (.iload_n 1, 1) := by decide +kernel
theorem zf64_5 : fetch 64 5 = some (.iconst 3, 1) := by decide +kernel
theorem zf64_6 : fetch 64 6 = some (.imul, 1) := by decide +kernel
theorem zf64_7 : fetch 64 7 = some (.iconst 1, 1) := by decide +kernel
theorem zf64_8 : fetch 64 8 = some (.iadd, 1) := by decide +kernel
theorem zf64_9 : fetch 64 9 = some (.iaload, 1) := by decide +kernel
theorem zf64_10 : fetch 64 10 = some (.ireturn, 1) := by decide +kernel
theorem zf68_0 : fetch 68 0 = some (.iconst 0, 1) := by decide +kernel
theorem zf68_1 : fetch 68 1 = some (.istore_n 3, 1) := by decide +kernel
theorem zf68_2 : fetch 68 2 = some (.iconst 0, 1) := by decide +kernel
theorem zf68_3 : fetch 68 3 = some (.istore 4, 2) := by decide +kernel
theorem zf69_0 : fetch 69 0 = some (.bipush 60, 2) := by decide +kernel
theorem zf69_2 : fetch 69 2 = some (.aload_n 0, 1) := by decide +kernel
theorem zf69_3 : fetch 69 3 = some (.getfield 15, 3) := by decide +kernel
theorem zf69_6 : fetch 69 6 = some (.iconst 5, 1) := by decide +kernel
theorem zf69_7 : fetch 69 7 = some (.iaload, 1) := by decide +kernel
theorem zf69_8 : fetch 69 8 = some (.invokestatic 64, 3) := by decide +kernel
theorem zf69_11 : fetch 69 11 = some (.ireturn, 1) := by decide +kernel
theorem zf71_0 : fetch 71 0 = some (.aload_n 0, 1) := by decide +kernel
theorem zf71_1 : fetch 71 1 = some (.getfield 19, 3) := by decide +kernel
theorem zf71_4 : fetch 71 4 = some (.iload_n 2, 1) := by decide +kernel
theorem zf71_5 : fetch 71 5 = some (.invokevirtual 178, 3) := by decide +kernel
theorem zf71_8 : fetch 71 8 = some (.ifCond .eq 36, 3) := by decide +kernel
theorem zf71_44 : fetch 71 44 = some (.iconst 0, 1) := by decide +kernel
theorem zf71_45 : fetch 71 45 = some (.ireturn, 1) := by decide +kernel
theorem zf71_11 : fetch 71 11 = some (.aload_n 1, 1) := by decide +kernel
theorem zf71_12 : fetch 71 12 = some (.getfield 162, 3) := by decide +kernel
theorem zf71_15 : fetch 71 15 = some (.bipush 16, 2) := by decide +kernel
theorem zf71_17 : fetch 71 17 = some (.iload_n 2, 1) := by decide +kernel
theorem zf71_18 : fetch 71 18 = some (.iadd, 1) := by decide +kernel
theorem zf71_19 : fetch 71 19 = some (.iaload, 1) := by decide +kernel
theorem zf71_20 : fetch 71 20 = some (.ifCond .ne 24, 3) := by decide +kernel
theorem zf71_23 : fetch 71 23 = some (.iload_n 3, 1) := by decide +kernel
theorem zf71_24 : fetch 71 24 = some (.invokestatic 268, 3) := by decide +kernel
theorem zf71_27 : fetch 71 27 = some (.ifCond .eq 17, 3) := by decide +kernel
theorem zf71_30 : fetch 71 30 = some (.iload_n 3, 1) := by decide +kernel
theorem zf71_31 : fetch 71 31 = some (.aload_n 1, 1) := by decide +kernel
theorem zf71_32 : fetch 71 32 = some (.getfield 162, 3) := by decide +kernel
theorem zf71_35 : fetch 71 35 = some (.iconst 0, 1) := by decide +kernel
theorem zf71_36 : fetch 71 36 = some (.iaload, 1) := by decide +kernel
theorem zf71_37 : fetch 71 37 = some (.if_icmp .gt 7, 3) := by decide +kernel
theorem zf71_40 : fetch 71 40 = some (.iconst 1, 1) := by decide +kernel
theorem zf71_41 : fetch 71 41 = some (.goto 4, 3) := by decide +kernel
theorem zf74_0 : fetch 74 0 = some (.iload_n 0, 1) := by decide +kernel
theorem zf74_1 : fetch 74 1 = some (.ifCond .eq 8, 3) := by decide +kernel
theorem zf74_9 : fetch 74 9 = some (.iconst 1, 1) := by decide +kernel
theorem zf74_10 : fetch 74 10 = some (.goto 4, 3) := by decide +kernel
theorem zf74_14 : fetch 74 14 = some (.ireturn, 1) := by decide +kernel
theorem zf74_4 : fetch 74 4 = some (.iload_n 0, 1) := by decide +kernel
theorem zf74_5 : fetch 74 5 = some (.iconst 1, 1) := by decide +kernel
theorem zf74_6 : fetch 74 6 = some (.if_icmp .ne 7, 3) := by decide +kernel
theorem zf74_13 : fetch 74 13 = some (.iconst 0, 1) := by decide +kernel
theorem zf75_0 : fetch 75 0 = some (.aload_n 0, 1) := by decide +kernel
theorem zf75_1 : fetch 75 1 = some (.getfield 88, 3) := by decide +kernel
theorem zf75_4 : fetch 75 4 = some (.getfield 162, 3) := by decide +kernel
theorem zf75_7 : fetch 75 7 = some (.bipush 29, 2) := by decide +kernel
theorem zf75_9 : fetch 75 9 = some (.aload_n 0, 1) := by decide +kernel
theorem zf75_10 : fetch 75 10 = some (.getfield 88, 3) := by decide +kernel
theorem zf75_13 : fetch 75 13 = some (.getfield 162, 3) := by decide +kernel
theorem zf75_16 : fetch 75 16 = some (.bipush 6, 2) := by decide +kernel
theorem zf75_18 : fetch 75 18 = some (.iload_n 1, 1) := by decide +kernel
theorem zf75_19 : fetch 75 19 = some (.iadd, 1) := by decide +kernel
theorem zf75_20 : fetch 75 20 = some (.iaload, 1) := by decide +kernel
theorem zf75_21 : fetch 75 21 = some (.iadd, 1) := by decide +kernel
theorem zf75_22 : fetch 75 22 = some (.iaload, 1) := by decide +kernel
theorem zf75_23 : fetch 75 23 = some (.istore_n 3, 1) := by decide +kernel
theorem zf75_24 : fetch 75 24 = some (.iload_n 2, 1) := by decide +kernel
theorem zf75_25 : fetch 75 25 = some (.ifCond .lt 35, 3) := by decide +kernel
theorem zf75_60 : fetch 75 60 = some (.iconst 0, 1) := by decide +kernel
theorem zf75_61 : fetch 75 61 = some (.ireturn, 1) := by decide +kernel
theorem zf75_28 : fetch 75 28 = some (.iload_n 2, 1) := by decide +kernel
theorem zf75_29 : fetch 75 29 = some (.bipush 63, 2) := by decide +kernel
theorem zf75_31 : fetch 75 31 = some (.if_icmp .gt 29, 3) := by decide +kernel
theorem zf75_34 : fetch 75 34 = some (.iload_n 2, 1) := by decide +kernel
theorem zf75_35 : fetch 75 35 = some (.iload_n 3, 1) := by decide +kernel
theorem zf75_36 : fetch 75 36 = some (.iconst (-1), 1) := by decide +kernel
theorem zf75_37 : fetch 75 37 = some (.ixor, 1) := by decide +kernel
theorem zf75_38 : fetch 75 38 = some (.iand, 1) := by decide +kernel
theorem zf75_39 : fetch 75 39 = some (.ifCond .ne 21, 3) := by decide +kernel
theorem zf75_42 : fetch 75 42 = some (.iload_n 2, 1) := by decide +kernel
theorem zf75_43 : fetch 75 43 = some (.invokestatic 271, 3) := by decide +kernel
theorem zf75_46 : fetch 75 46 = some (.aload_n 0, 1) := by decide +kernel
theorem zf75_47 : fetch 75 47 = some (.getfield 19, 3) := by decide +kernel
theorem zf75_50 : fetch 75 50 = some (.invokevirtual 165, 3) := by decide +kernel
theorem zf75_53 : fetch 75 53 = some (.if_icmp .gt 7, 3) := by decide +kernel
theorem zf75_56 : fetch 75 56 = some (.iconst 1, 1) := by decide +kernel
theorem zf75_57 : fetch 75 57 = some (.goto 4, 3) := by decide +kernel
theorem zf77_0 : fetch 77 0 = some (.aload_n 1, 1) := by decide +kernel
theorem zf77_1 : fetch 77 1 = some (.getfield 16, 3) := by decide +kernel
theorem zf77_4 : fetch 77 4 = some (.iconst 0, 1) := by decide +kernel
theorem zf77_5 : fetch 77 5 = some (.aload_n 0, 1) := by decide +kernel
theorem zf77_6 : fetch 77 6 = some (.getfield 13, 3) := by decide +kernel
theorem zf77_9 : fetch 77 9 = some (.aload_n 0, 1) := by decide +kernel
theorem zf77_10 : fetch 77 10 = some (.getfield 20, 3) := by decide +kernel
theorem zf77_13 : fetch 77 13 = some (.aaload, 1) := by decide +kernel
theorem zf77_14 : fetch 77 14 = some (.iconst 0, 1) := by decide +kernel
theorem zf77_15 : fetch 77 15 = some (.bipush 37, 2) := by decide +kernel
theorem zf77_17 : fetch 77 17 = some (.invokestatic 24, 3) := by decide +kernel
theorem zf77_20 : fetch 77 20 = some (.aload_n 0, 1) := by decide +kernel
theorem zf77_21 : fetch 77 21 = some (.aload_n 0, 1) := by decide +kernel
theorem zf77_22 : fetch 77 22 = some (.getfield 20, 3) := by decide +kernel
theorem zf77_25 : fetch 77 25 = some (.iconst 1, 1) := by decide +kernel
theorem zf77_26 : fetch 77 26 = some (.iadd, 1) := by decide +kernel
theorem zf77_27 : fetch 77 27 = some (.bipush 40, 2) := by decide +kernel
theorem zf77_29 : fetch 77 29 = some (.irem, 1) := by decide +kernel
theorem zf77_30 : fetch 77 30 = some (.putfield 20, 3) := by decide +kernel
theorem zf77_33 : fetch 77 33 = some (.aload_n 0, 1) := by decide +kernel
theorem zf77_34 : fetch 77 34 = some (.bipush 40, 2) := by decide +kernel
theorem zf77_36 : fetch 77 36 = some (.aload_n 0, 1) := by decide +kernel
theorem zf77_37 : fetch 77 37 = some (.getfield 30, 3) := by decide +kernel
theorem zf77_40 : fetch 77 40 = some (.iconst 1, 1) := by decide +kernel
theorem zf77_41 : fetch 77 41 = some (.iadd, 1) := by decide +kernel
theorem zf77_42 : fetch 77 42 = some (.invokestatic 33, 3) := by decide +kernel
theorem zf77_45 : fetch 77 45 = some (.putfield 30, 3) := by decide +kernel
theorem zf77_48 : fetch 77 48 = some (.return_, 1) := by decide +kernel
theorem zf78_0 : fetch 78 0 = some (.aload_n 1, 1) := by decide +kernel
theorem zf78_1 : fetch 78 1 = some (.getfield 162, 3) := by decide +kernel
theorem zf78_4 : fetch 78 4 = some (.bipush 6, 2) := by decide +kernel
theorem zf78_6 : fetch 78 6 = some (.iload_n 2, 1) := by decide +kernel
theorem zf78_7 : fetch 78 7 = some (.iadd, 1) := by decide +kernel
theorem zf78_8 : fetch 78 8 = some (.iaload, 1) := by decide +kernel
theorem zf78_9 : fetch 78 9 = some (.istore 6, 2) := by decide +kernel
theorem zf78_11 : fetch 78 11 = some (.aload_n 0, 1) := by decide +kernel
theorem zf78_12 : fetch 78 12 = some (.getfield 19, 3) := by decide +kernel
theorem zf78_15 : fetch 78 15 = some (.aload_n 0, 1) := by decide +kernel
theorem zf78_16 : fetch 78 16 = some (.getfield 58, 3) := by decide +kernel
theorem zf78_19 : fetch 78 19 = some (.aload_n 1, 1) := by decide +kernel
theorem zf78_20 : fetch 78 20 = some (.iload_n 2, 1) := by decide +kernel
theorem zf78_21 : fetch 78 21 = some (.iload 6, 2) := by decide +kernel
theorem zf78_23 : fetch 78 23 = some (.iload_n 3, 1) := by decide +kernel
theorem zf78_24 : fetch 78 24 = some (.iload 4, 2) := by decide +kernel
theorem zf78_26 : fetch 78 26 = some (.invokevirtual 279, 3) := by decide +kernel
theorem zf78_29 : fetch 78 29 = some (.invokevirtual 282, 3) := by decide +kernel
theorem zf78_32 : fetch 78 32 = some (.istore 7, 2) := by decide +kernel
theorem zf78_34 : fetch 78 34 = some (.aload_n 1, 1) := by decide +kernel
theorem zf78_35 : fetch 78 35 = some (.getfield 162, 3) := by decide +kernel
theorem zf78_38 : fetch 78 38 = some (.iconst 0, 1) := by decide +kernel
theorem zf78_39 : fetch 78 39 = some (.dup2, 1) := by decide +kernel
theorem zf78_40 : fetch 78 40 = some (.iaload, 1) := by decide +kernel
theorem zf78_41 : fetch 78 41 = some (.iload_n 3, 1) := by decide +kernel
theorem zf78_42 : fetch 78 42 = some (.isub, 1) := by decide +kernel
theorem zf78_43 : fetch 78 43 = some (.iastore, 1) := by decide +kernel
theorem zf78_44 : fetch 78 44 = some (.iload 7, 2) := by decide +kernel
theorem zf78_46 : fetch 78 46 = some (.iconst (-1), 1) := by decide +kernel
theorem zf78_47 : fetch 78 47 = some (.if_icmp .ne 16, 3) := by decide +kernel
theorem zf78_63 : fetch 78 63 = some (.aload_n 1, 1) := by decide +kernel
theorem zf78_64 : fetch 78 64 = some (.iload_n 2, 1) := by decide +kernel
theorem zf78_65 : fetch 78 65 = some (.iload 7, 2) := by decide +kernel
theorem zf78_67 : fetch 78 67 = some (.iload 5, 2) := by decide +kernel
theorem zf78_69 : fetch 78 69 = some (.invokevirtual 285, 3) := by decide +kernel
theorem zf78_72 : fetch 78 72 = some (.aload_n 1, 1) := by decide +kernel
theorem zf78_73 : fetch 78 73 = some (.iload_n 2, 1) := by decide +kernel
theorem zf78_74 : fetch 78 74 = some (.iload 6, 2) := by decide +kernel
theorem zf78_76 : fetch 78 76 = some (.iload 7, 2) := by decide +kernel
theorem zf78_78 : fetch 78 78 = some (.iload_n 3, 1) := by decide +kernel
theorem zf78_79 : fetch 78 79 = some (.invokevirtual 289, 3) := by decide +kernel
theorem zf78_82 : fetch 78 82 = some (.iload 7, 2) := by decide +kernel
theorem zf78_84 : fetch 78 84 = some (.ireturn, 1) := by decide +kernel
theorem zf78_50 : fetch 78 50 = some (.aload_n 1, 1) := by decide +kernel
theorem zf78_51 : fetch 78 51 = some (.getfield 162, 3) := by decide +kernel
theorem zf78_54 : fetch 78 54 = some (.bipush 16, 2) := by decide +kernel
theorem zf78_56 : fetch 78 56 = some (.iload_n 2, 1) := by decide +kernel
theorem zf78_57 : fetch 78 57 = some (.iadd, 1) := by decide +kernel
theorem zf78_58 : fetch 78 58 = some (.iconst 2, 1) := by decide +kernel
theorem zf78_59 : fetch 78 59 = some (.iastore, 1) := by decide +kernel
