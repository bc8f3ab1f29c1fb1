/-! facts of the tables and rows that decode (wip/whole/dec.py) -/
theorem clr_z {l : List MV} {j : Nat} {z : MV} (h : l[j]? = some z) (hz : cat z = 1) : clr l (j + 1) = l := by
  rw [clr_succ]
  split
  · rename_i x e
    rw [h] at e
    cases e
    cases hz
  · rfl
theorem st1_z {l l' : List MV} {j : Nat} {z v : MV} (h : l[j]? = some z) (hz : cat z = 1) (e : l.set (j + 1) v = l') : st1 l (j + 1) v = l' := by
  unfold st1
  rw [clr_z h hz]
  exact e
theorem st2_z {l l' : List MV} {j : Nat} {z v : MV} (h : l[j]? = some z) (hz : cat z = 1) (e : (l.set (j + 1) v).set (j + 2) vU = l') : st2 l (j + 1) v = l' := by
  unfold st2
  rw [clr_z h hz]
  exact e
theorem switch_if {α : Type} {c : Prop} [Decidable c] {x u v : α} (h1 : c → x = u) (h2 : ¬ c → x = v) : x = if c then u else v := by
  by_cases q : c
  · rw [if_pos q]; exact h1 q
  · rw [if_neg q]; exact h2 q
theorem zr_1 : mR 1 = some .int := by decide +kernel
theorem zo_0 : mO 0 = 11 := by decide +kernel
theorem zsl_11_98 : sl 11 98 = some (1, 1) := by decide +kernel
theorem zl_1 : mL 1 = 3 := by decide +kernel
theorem zlt_0 : 0 < nC := by decide +kernel
theorem zfl_11_10 : fl 11 10 = some (11, 0) := by decide +kernel
theorem zk1_0 : (mk 0).1 = 11 := by decide +kernel
theorem zft_11_0 : ft 11 0 = 2 := by decide +kernel
theorem zmr_0_0 : mr 0 0 = 1 := by decide +kernel
theorem zfl_11_102 : fl 11 102 = some (10, 1) := by decide +kernel
theorem zk1_1 : (mk 1).1 = 10 := by decide +kernel
theorem zft_10_1 : ft 10 1 = 0 := by decide +kernel
theorem zs_240 : (Int16.ofInt 240).toInt32.toInt = 240 := by decide +kernel
theorem zr_2 : mR 2 = none := by decide +kernel
theorem zvl_11_106 : vl 11 106 = some (2, 1) := by decide +kernel
theorem zl_2 : mL 2 = 4 := by decide +kernel
theorem zo_2 : mO 2 = 10 := by decide +kernel
theorem zr_0 : mR 0 = some .int := by decide +kernel
theorem zw_m1 : wI (-1) = (-1) := by decide +kernel
theorem zw_0 : wI 0 = 0 := by decide +kernel
theorem zr_3 : mR 3 = some .boolean := by decide +kernel
theorem zo_3 : mO 3 = 11 := by decide +kernel
theorem zw_1 : wI 1 = 1 := by decide +kernel
theorem zo_4 : mO 4 = 11 := by decide +kernel
theorem zfl_11_28 : fl 11 28 = some (11, 2) := by decide +kernel
theorem zft_11_2 : ft 11 2 = 2 := by decide +kernel
theorem zmr_0_2 : mr 0 2 = 3 := by decide +kernel
theorem zr_5 : mR 5 = some .int := by decide +kernel
theorem zvl_11_110 : vl 11 110 = some (5, 0) := by decide +kernel
theorem zl_5 : mL 5 = 1 := by decide +kernel
theorem zk1_3 : (mk 3).1 = 6 := by decide +kernel
theorem zo_5 : mO 5 = 6 := by decide +kernel
theorem zr_4 : mR 4 = some .int := by decide +kernel
theorem zfl_11_35 : fl 11 35 = some (11, 3) := by decide +kernel
theorem zft_11_3 : ft 11 3 = 2 := by decide +kernel
theorem zmr_0_3 : mr 0 3 = 5 := by decide +kernel
theorem zr_22 : mR 22 = some .int := by decide +kernel
theorem zvl_11_114 : vl 11 114 = some (22, 0) := by decide +kernel
theorem zl_22 : mL 22 = 2 := by decide +kernel
theorem zk1_5 : (mk 5).1 = 3 := by decide +kernel
theorem zo_22 : mO 22 = 3 := by decide +kernel
theorem zfl_11_49 : fl 11 49 = some (11, 5) := by decide +kernel
theorem zft_11_5 : ft 11 5 = 2 := by decide +kernel
theorem zmr_0_5 : mr 0 5 = 7 := by decide +kernel
theorem zr_38 : mR 38 = some .int := by decide +kernel
theorem zvl_11_115 : vl 11 115 = some (38, 0) := by decide +kernel
theorem zl_38 : mL 38 = 2 := by decide +kernel
theorem zk1_7 : (mk 7).1 = 8 := by decide +kernel
theorem zo_38 : mO 38 = 8 := by decide +kernel
theorem zb_m2 : toB (-2) = (-2) := by decide +kernel
theorem zo_44 : mO 44 = 11 := by decide +kernel
theorem zr_45 : mR 45 = none := by decide +kernel
theorem zvl_11_116 : vl 11 116 = some (45, 0) := by decide +kernel
theorem zl_45 : mL 45 = 1 := by decide +kernel
theorem zo_45 : mO 45 = 11 := by decide +kernel
theorem zfl_11_19 : fl 11 19 = some (11, 1) := by decide +kernel
theorem zft_11_1 : ft 11 1 = 2 := by decide +kernel
theorem zmr_0_1 : mr 0 1 = 2 := by decide +kernel
theorem zfl_11_119 : fl 11 119 = some (5, 3) := by decide +kernel
theorem zk1_2 : (mk 2).1 = 5 := by decide +kernel
theorem zft_5_3 : ft 5 3 = 0 := by decide +kernel
theorem zr_44 : mR 44 = some .int := by decide +kernel
theorem zo_60 : mO 60 = 11 := by decide +kernel
theorem zr_61 : mR 61 = some .boolean := by decide +kernel
theorem zvl_11_159 : vl 11 159 = some (61, 0) := by decide +kernel
theorem zl_61 : mL 61 = 1 := by decide +kernel
theorem zo_61 : mO 61 = 5 := by decide +kernel
theorem zfl_11_88 : fl 11 88 = some (11, 10) := by decide +kernel
theorem zft_11_10 : ft 11 10 = 2 := by decide +kernel
theorem zmr_0_10 : mr 0 10 = 12 := by decide +kernel
theorem zfl_11_162 : fl 11 162 = some (9, 0) := by decide +kernel
theorem zk1_12 : (mk 12).1 = 9 := by decide +kernel
theorem zft_9_0 : ft 9 0 = 2 := by decide +kernel
theorem zmr_12_0 : mr 12 0 = 91 := by decide +kernel
theorem zk_91 : mk 91 = (100, 37) := by decide +kernel
theorem zr_60 : mR 60 = some .int := by decide +kernel
theorem zw_2 : wI 2 = 2 := by decide +kernel
theorem zr_62 : mR 62 = some .int := by decide +kernel
theorem zvl_11_165 : vl 11 165 = some (62, 0) := by decide +kernel
theorem zl_62 : mL 62 = 1 := by decide +kernel
theorem zo_62 : mO 62 = 5 := by decide +kernel
theorem zw_3 : wI 3 = 3 := by decide +kernel
theorem zo_63 : mO 63 = 11 := by decide +kernel
theorem zr_20 : mR 20 = some .boolean := by decide +kernel
theorem zvl_11_168 : vl 11 168 = some (20, 1) := by decide +kernel
theorem zl_20 : mL 20 = 2 := by decide +kernel
theorem zo_20 : mO 20 = 5 := by decide +kernel
theorem zr_18 : mR 18 = some .int := by decide +kernel
theorem zvl_11_172 : vl 11 172 = some (18, 1) := by decide +kernel
theorem zl_18 : mL 18 = 2 := by decide +kernel
theorem zo_18 : mO 18 = 5 := by decide +kernel
theorem zr_63 : mR 63 = some .int := by decide +kernel
theorem zr_64 : mR 64 = some .int := by decide +kernel
theorem zvl_11_175 : vl 11 175 = some (64, 1) := by decide +kernel
theorem zl_64 : mL 64 = 2 := by decide +kernel
theorem zo_64 : mO 64 = 5 := by decide +kernel
theorem zb_21 : toB 21 = 21 := by decide +kernel
theorem zb_29 : toB 29 = 29 := by decide +kernel
theorem zr_65 : mR 65 = some .boolean := by decide +kernel
theorem zo_65 : mO 65 = 11 := by decide +kernel
theorem zfl_11_42 : fl 11 42 = some (11, 4) := by decide +kernel
theorem zft_11_4 : ft 11 4 = 2 := by decide +kernel
theorem zmr_0_4 : mr 0 4 = 6 := by decide +kernel
theorem zfl_11_196 : fl 11 196 = some (4, 1) := by decide +kernel
theorem zk1_6 : (mk 6).1 = 4 := by decide +kernel
theorem zft_4_1 : ft 4 1 = 0 := by decide +kernel
theorem zfl_11_199 : fl 11 199 = some (4, 2) := by decide +kernel
theorem zft_4_2 : ft 4 2 = 0 := by decide +kernel
theorem zr_66 : mR 66 = some .boolean := by decide +kernel
theorem zb_9 : toB 9 = 9 := by decide +kernel
theorem zo_66 : mO 66 = 11 := by decide +kernel
theorem zfl_11_202 : fl 11 202 = some (11, 14) := by decide +kernel
theorem zft_11_14 : ft 11 14 = 0 := by decide +kernel
theorem zo_67 : mO 67 = 11 := by decide +kernel
theorem zr_67 : mR 67 = some .int := by decide +kernel
theorem zfl_11_205 : fl 11 205 = some (5, 4) := by decide +kernel
theorem zft_5_4 : ft 5 4 = 0 := by decide +kernel
theorem zfl_11_208 : fl 11 208 = some (8, 1) := by decide +kernel
theorem zft_8_1 : ft 8 1 = 0 := by decide +kernel
theorem zw_4 : wI 4 = 4 := by decide +kernel
theorem zr_68 : mR 68 = some .int := by decide +kernel
theorem zvl_11_209 : vl 11 209 = some (68, 2) := by decide +kernel
theorem zl_68 : mL 68 = 5 := by decide +kernel
theorem zo_68 : mO 68 = 9 := by decide +kernel
theorem zb_11 : toB 11 = 11 := by decide +kernel
theorem zfl_11_74 : fl 11 74 = some (11, 8) := by decide +kernel
theorem zft_11_8 : ft 11 8 = 2 := by decide +kernel
theorem zmr_0_8 : mr 0 8 = 10 := by decide +kernel
theorem zfl_11_213 : fl 11 213 = some (1, 2) := by decide +kernel
theorem zk1_10 : (mk 10).1 = 1 := by decide +kernel
theorem zft_1_2 : ft 1 2 = 0 := by decide +kernel
theorem zfl_11_216 : fl 11 216 = some (1, 3) := by decide +kernel
theorem zft_1_3 : ft 1 3 = 0 := by decide +kernel
theorem zr_69 : mR 69 = some .int := by decide +kernel
theorem zvl_11_219 : vl 11 219 = some (69, 0) := by decide +kernel
theorem zl_69 : mL 69 = 1 := by decide +kernel
theorem zo_69 : mO 69 = 9 := by decide +kernel
theorem zfl_11_81 : fl 11 81 = some (11, 9) := by decide +kernel
theorem zft_11_9 : ft 11 9 = 2 := by decide +kernel
theorem zmr_0_9 : mr 0 9 = 11 := by decide +kernel
theorem zfl_11_222 : fl 11 222 = some (2, 0) := by decide +kernel
theorem zk1_11 : (mk 11).1 = 2 := by decide +kernel
theorem zft_2_0 : ft 2 0 = 0 := by decide +kernel
theorem zcl_11_223 : cl_ 11 223 = some (-1000000) := by decide +kernel
theorem zo_70 : mO 70 = 11 := by decide +kernel
theorem zr_71 : mR 71 = some .boolean := by decide +kernel
theorem zvl_11_224 : vl 11 224 = some (71, 3) := by decide +kernel
theorem zl_71 : mL 71 = 4 := by decide +kernel
theorem zo_71 : mO 71 = 11 := by decide +kernel
theorem zr_70 : mR 70 = some .int := by decide +kernel
theorem zr_74 : mR 74 = some .boolean := by decide +kernel
theorem zsl_11_228 : sl 11 228 = some (74, 1) := by decide +kernel
theorem zl_74 : mL 74 = 1 := by decide +kernel
theorem zr_75 : mR 75 = some .boolean := by decide +kernel
theorem zvl_11_231 : vl 11 231 = some (75, 2) := by decide +kernel
theorem zl_75 : mL 75 = 4 := by decide +kernel
theorem zo_75 : mO 75 = 11 := by decide +kernel
theorem zr_77 : mR 77 = none := by decide +kernel
theorem zvl_11_235 : vl 11 235 = some (77, 1) := by decide +kernel
theorem zl_77 : mL 77 = 2 := by decide +kernel
theorem zo_77 : mO 77 = 2 := by decide +kernel
theorem zr_78 : mR 78 = some .int := by decide +kernel
theorem zvl_11_239 : vl 11 239 = some (78, 5) := by decide +kernel
theorem zl_78 : mL 78 = 8 := by decide +kernel
theorem zo_78 : mO 78 = 11 := by decide +kernel
theorem zo_90 : mO 90 = 11 := by decide +kernel
theorem zr_91 : mR 91 = some .boolean := by decide +kernel
theorem zvl_11_243 : vl 11 243 = some (91, 3) := by decide +kernel
theorem zl_91 : mL 91 = 4 := by decide +kernel
theorem zo_91 : mO 91 = 11 := by decide +kernel
theorem zr_90 : mR 90 = some .boolean := by decide +kernel
theorem zo_93 : mO 93 = 11 := by decide +kernel
theorem zr_93 : mR 93 = some .int := by decide +kernel
theorem zo_94 : mO 94 = 11 := by decide +kernel
theorem zr_94 : mR 94 = some .int := by decide +kernel
theorem zb_50 : toB 50 = 50 := by decide +kernel
theorem zb_99 : toB 99 = 99 := by decide +kernel
theorem zo_95 : mO 95 = 11 := by decide +kernel
theorem zr_95 : mR 95 = some .boolean := by decide +kernel
theorem zr_96 : mR 96 = some .boolean := by decide +kernel
theorem zvl_11_246 : vl 11 246 = some (96, 2) := by decide +kernel
theorem zl_96 : mL 96 = 3 := by decide +kernel
theorem zo_96 : mO 96 = 9 := by decide +kernel
theorem zo_97 : mO 97 = 11 := by decide +kernel
theorem zr_97 : mR 97 = some .boolean := by decide +kernel
theorem zr_99 : mR 99 = some .boolean := by decide +kernel
theorem zo_98 : mO 98 = 11 := by decide +kernel
theorem zvl_11_249 : vl 11 249 = some (99, 1) := by decide +kernel
theorem zl_99 : mL 99 = 2 := by decide +kernel
theorem zo_99 : mO 99 = 11 := by decide +kernel
theorem zr_98 : mR 98 = some .int := by decide +kernel
theorem zo_101 : mO 101 = 11 := by decide +kernel
theorem zr_101 : mR 101 = some .int := by decide +kernel
theorem zo_106 : mO 106 = 11 := by decide +kernel
theorem zr_107 : mR 107 = some .boolean := by decide +kernel
theorem zvl_11_259 : vl 11 259 = some (107, 1) := by decide +kernel
theorem zl_107 : mL 107 = 2 := by decide +kernel
theorem zo_107 : mO 107 = 2 := by decide +kernel
theorem zr_106 : mR 106 = some .int := by decide +kernel
theorem zo_108 : mO 108 = 11 := by decide +kernel
theorem zr_108 : mR 108 = some .int := by decide +kernel
theorem zr_109 : mR 109 = some .int := by decide +kernel
theorem zvl_11_263 : vl 11 263 = some (109, 2) := by decide +kernel
theorem zl_109 : mL 109 = 3 := by decide +kernel
theorem zo_109 : mO 109 = 9 := by decide +kernel
theorem zo_110 : mO 110 = 11 := by decide +kernel
theorem zfl_11_95 : fl 11 95 = some (11, 12) := by decide +kernel
theorem zft_11_12 : ft 11 12 = 2 := by decide +kernel
theorem zmr_0_12 : mr 0 12 = 14 := by decide +kernel
theorem zr_111 : mR 111 = none := by decide +kernel
theorem zvl_11_266 : vl 11 266 = some (111, 1) := by decide +kernel
theorem zl_111 : mL 111 = 2 := by decide +kernel
theorem zk1_14 : (mk 14).1 = 9 := by decide +kernel
theorem zo_111 : mO 111 = 9 := by decide +kernel
theorem zfl_11_155 : fl 11 155 = some (11, 13) := by decide +kernel
theorem zft_11_13 : ft 11 13 = 5 := by decide +kernel
theorem zr_110 : mR 110 = some .int := by decide +kernel
theorem zo_112 : mO 112 = 11 := by decide +kernel
theorem zr_53 : mR 53 = none := by decide +kernel
theorem zvl_11_150 : vl 11 150 = some (53, 0) := by decide +kernel
theorem zl_53 : mL 53 = 1 := by decide +kernel
theorem zo_53 : mO 53 = 2 := by decide +kernel
theorem zr_112 : mR 112 = some .int := by decide +kernel
theorem zo_113 : mO 113 = 11 := by decide +kernel
theorem zr_114 : mR 114 = some .boolean := by decide +kernel
theorem zvl_11_308 : vl 11 308 = some (114, 1) := by decide +kernel
theorem zl_114 : mL 114 = 2 := by decide +kernel
theorem zo_114 : mO 114 = 8 := by decide +kernel
theorem zr_113 : mR 113 = some .int := by decide +kernel
theorem zfl_11_311 : fl 11 311 = some (8, 0) := by decide +kernel
theorem zft_8_0 : ft 8 0 = 2 := by decide +kernel
theorem zmr_7_0 : mr 7 0 = 31 := by decide +kernel
theorem zk_31 : mk 31 = (100, 4) := by decide +kernel
theorem zr_115 : mR 115 = some .int := by decide +kernel
theorem zvl_11_314 : vl 11 314 = some (115, 3) := by decide +kernel
theorem zl_115 : mL 115 = 4 := by decide +kernel
theorem zo_115 : mO 115 = 8 := by decide +kernel
theorem zo_116 : mO 116 = 11 := by decide +kernel
theorem zr_116 : mR 116 = some .int := by decide +kernel
theorem zfl_11_92 : fl 11 92 = some (11, 11) := by decide +kernel
theorem zft_11_11 : ft 11 11 = 2 := by decide +kernel
theorem zmr_0_11 : mr 0 11 = 13 := by decide +kernel
theorem zk1_13 : (mk 13).1 = 9 := by decide +kernel
theorem zr_117 : mR 117 = some .int := by decide +kernel
theorem zvl_11_318 : vl 11 318 = some (117, 3) := by decide +kernel
theorem zl_117 : mL 117 = 7 := by decide +kernel
theorem zo_117 : mO 117 = 11 := by decide +kernel
theorem zmr_13_0 : mr 13 0 = 93 := by decide +kernel
theorem zk_93 : mk 93 = (100, 37) := by decide +kernel
theorem zo_120 : mO 120 = 11 := by decide +kernel
theorem zr_120 : mR 120 = some .int := by decide +kernel
theorem zr_122 : mR 122 = some .boolean := by decide +kernel
theorem zo_121 : mO 121 = 11 := by decide +kernel
theorem zvl_11_329 : vl 11 329 = some (122, 4) := by decide +kernel
theorem zl_122 : mL 122 = 5 := by decide +kernel
theorem zo_122 : mO 122 = 11 := by decide +kernel
theorem zr_121 : mR 121 = some .int := by decide +kernel
theorem zfl_11_58 : fl 11 58 = some (11, 6) := by decide +kernel
theorem zft_11_6 : ft 11 6 = 2 := by decide +kernel
theorem zmr_0_6 : mr 0 6 = 8 := by decide +kernel
theorem zr_79 : mR 79 = some .int := by decide +kernel
theorem zvl_11_279 : vl 11 279 = some (79, 5) := by decide +kernel
theorem zl_79 : mL 79 = 8 := by decide +kernel
theorem zk1_8 : (mk 8).1 = 0 := by decide +kernel
theorem zo_79 : mO 79 = 0 := by decide +kernel
theorem zr_87 : mR 87 = some .int := by decide +kernel
theorem zvl_11_282 : vl 11 282 = some (87, 1) := by decide +kernel
theorem zl_87 : mL 87 = 5 := by decide +kernel
theorem zo_87 : mO 87 = 5 := by decide +kernel
theorem zr_124 : mR 124 = some .boolean := by decide +kernel
theorem zo_123 : mO 123 = 11 := by decide +kernel
theorem zvl_11_333 : vl 11 333 = some (124, 3) := by decide +kernel
theorem zl_124 : mL 124 = 4 := by decide +kernel
theorem zo_124 : mO 124 = 11 := by decide +kernel
theorem zr_125 : mR 125 = some .int := by decide +kernel
theorem zvl_11_337 : vl 11 337 = some (125, 4) := by decide +kernel
theorem zl_125 : mL 125 = 7 := by decide +kernel
theorem zo_125 : mO 125 = 0 := by decide +kernel
theorem zr_123 : mR 123 = some .int := by decide +kernel
theorem zo_127 : mO 127 = 11 := by decide +kernel
theorem zr_127 : mR 127 = some .int := by decide +kernel
theorem zfl_11_67 : fl 11 67 = some (11, 7) := by decide +kernel
theorem zft_11_7 : ft 11 7 = 2 := by decide +kernel
theorem zmr_0_7 : mr 0 7 = 9 := by decide +kernel
theorem zr_128 : mR 128 = none := by decide +kernel
theorem zvl_11_341 : vl 11 341 = some (128, 3) := by decide +kernel
theorem zl_128 : mL 128 = 8 := by decide +kernel
theorem zk1_9 : (mk 9).1 = 7 := by decide +kernel
theorem zo_128 : mO 128 = 7 := by decide +kernel
theorem zfl_11_344 : fl 11 344 = some (7, 0) := by decide +kernel
theorem zft_7_0 : ft 7 0 = 2 := by decide +kernel
theorem zmr_9_0 : mr 9 0 = 40 := by decide +kernel
theorem zk_40 : mk 40 = (100, 8) := by decide +kernel
theorem zfl_11_350 : fl 11 350 = some (7, 2) := by decide +kernel
theorem zft_7_2 : ft 7 2 = 2 := by decide +kernel
theorem zmr_9_2 : mr 9 2 = 42 := by decide +kernel
theorem zk_42 : mk 42 = (100, 8) := by decide +kernel
theorem zfl_11_347 : fl 11 347 = some (7, 1) := by decide +kernel
theorem zft_7_1 : ft 7 1 = 2 := by decide +kernel
theorem zmr_9_1 : mr 9 1 = 41 := by decide +kernel
theorem zk_41 : mk 41 = (100, 8) := by decide +kernel
theorem zr_92 : mR 92 = some .boolean := by decide +kernel
theorem zo_130 : mO 130 = 11 := by decide +kernel
theorem zsl_11_276 : sl 11 276 = some (92, 1) := by decide +kernel
theorem zl_92 : mL 92 = 1 := by decide +kernel
theorem zr_130 : mR 130 = some .int := by decide +kernel
theorem zr_131 : mR 131 = some .int := by decide +kernel
theorem zvl_11_353 : vl 11 353 = some (131, 2) := by decide +kernel
theorem zl_131 : mL 131 = 5 := by decide +kernel
theorem zo_131 : mO 131 = 9 := by decide +kernel
theorem zr_132 : mR 132 = some .int := by decide +kernel
theorem zvl_11_356 : vl 11 356 = some (132, 3) := by decide +kernel
theorem zl_132 : mL 132 = 6 := by decide +kernel
theorem zo_132 : mO 132 = 7 := by decide +kernel
theorem zb_100 : toB 100 = 100 := by decide +kernel
theorem zo_135 : mO 135 = 11 := by decide +kernel
theorem zr_135 : mR 135 = some .int := by decide +kernel
theorem zr_136 : mR 136 = some .int := by decide +kernel
theorem zvl_11_360 : vl 11 360 = some (136, 3) := by decide +kernel
theorem zl_136 : mL 136 = 7 := by decide +kernel
theorem zo_136 : mO 136 = 11 := by decide +kernel
theorem zo_137 : mO 137 = 11 := by decide +kernel
theorem zr_137 : mR 137 = some .int := by decide +kernel
theorem zo_138 : mO 138 = 11 := by decide +kernel
theorem zr_139 : mR 139 = none := by decide +kernel
theorem zvl_11_367 : vl 11 367 = some (139, 1) := by decide +kernel
theorem zl_139 : mL 139 = 5 := by decide +kernel
theorem zo_139 : mO 139 = 7 := by decide +kernel
theorem zr_140 : mR 140 = some .int := by decide +kernel
theorem zvl_11_370 : vl 11 370 = some (140, 2) := by decide +kernel
theorem zl_140 : mL 140 = 7 := by decide +kernel
theorem zo_140 : mO 140 = 7 := by decide +kernel
theorem zr_138 : mR 138 = some .int := by decide +kernel
theorem zo_141 : mO 141 = 11 := by decide +kernel
theorem zr_141 : mR 141 = some .int := by decide +kernel
theorem zo_142 : mO 142 = 11 := by decide +kernel
theorem zr_142 : mR 142 = some .int := by decide +kernel
theorem zr_143 : mR 143 = some .boolean := by decide +kernel
theorem zvl_11_373 : vl 11 373 = some (143, 5) := by decide +kernel
theorem zl_143 : mL 143 = 8 := by decide +kernel
theorem zo_143 : mO 143 = 11 := by decide +kernel
theorem zr_145 : mR 145 = some .boolean := by decide +kernel
theorem zo_144 : mO 144 = 11 := by decide +kernel
theorem zvl_11_387 : vl 11 387 = some (145, 2) := by decide +kernel
theorem zl_145 : mL 145 = 3 := by decide +kernel
theorem zo_145 : mO 145 = 11 := by decide +kernel
theorem zr_144 : mR 144 = some .int := by decide +kernel
theorem zb_16 : toB 16 = 16 := by decide +kernel
theorem zb_6 : toB 6 = 6 := by decide +kernel
theorem zr_82 : mR 82 = some .int := by decide +kernel
theorem zvl_11_188 : vl 11 188 = some (82, 1) := by decide +kernel
theorem zl_82 : mL 82 = 2 := by decide +kernel
theorem zo_82 : mO 82 = 5 := by decide +kernel
theorem zo_146 : mO 146 = 11 := by decide +kernel
theorem zr_146 : mR 146 = some .int := by decide +kernel
theorem zb_m60 : toB (-60) = (-60) := by decide +kernel
theorem zr_147 : mR 147 = some .boolean := by decide +kernel
theorem zvl_11_390 : vl 11 390 = some (147, 0) := by decide +kernel
theorem zl_147 : mL 147 = 1 := by decide +kernel
theorem zo_147 : mO 147 = 1 := by decide +kernel
theorem zr_148 : mR 148 = none := by decide +kernel
theorem zvl_11_393 : vl 11 393 = some (148, 5) := by decide +kernel
theorem zl_148 : mL 148 = 7 := by decide +kernel
theorem zo_148 : mO 148 = 1 := by decide +kernel
theorem zo_149 : mO 149 = 11 := by decide +kernel
theorem zr_150 : mR 150 = none := by decide +kernel
theorem zvl_11_397 : vl 11 397 = some (150, 0) := by decide +kernel
theorem zl_150 : mL 150 = 2 := by decide +kernel
theorem zo_150 : mO 150 = 1 := by decide +kernel
theorem zr_149 : mR 149 = some .int := by decide +kernel
theorem zfl_11_400 : fl 11 400 = some (1, 1) := by decide +kernel
theorem zft_1_1 : ft 1 1 = 0 := by decide +kernel
theorem zfl_11_403 : fl 11 403 = some (1, 0) := by decide +kernel
theorem zft_1_0 : ft 1 0 = 2 := by decide +kernel
theorem zmr_10_0 : mr 10 0 = 45 := by decide +kernel
theorem zk_45 : mk 45 = (100, 20) := by decide +kernel
theorem zo_153 : mO 153 = 11 := by decide +kernel
theorem zr_72 : mR 72 = some .boolean := by decide +kernel
theorem zvl_11_178 : vl 11 178 = some (72, 1) := by decide +kernel
theorem zl_72 : mL 72 = 2 := by decide +kernel
theorem zo_72 : mO 72 = 5 := by decide +kernel
theorem zr_153 : mR 153 = some .int := by decide +kernel
theorem zr_154 : mR 154 = some .int := by decide +kernel
theorem zvl_11_406 : vl 11 406 = some (154, 2) := by decide +kernel
theorem zl_154 : mL 154 = 8 := by decide +kernel
theorem zo_154 : mO 154 = 1 := by decide +kernel
theorem zo_156 : mO 156 = 11 := by decide +kernel
theorem zr_156 : mR 156 = some .int := by decide +kernel
theorem zr_157 : mR 157 = some .boolean := by decide +kernel
theorem zvl_11_409 : vl 11 409 = some (157, 0) := by decide +kernel
theorem zl_157 : mL 157 = 1 := by decide +kernel
theorem zo_157 : mO 157 = 1 := by decide +kernel
theorem zr_158 : mR 158 = none := by decide +kernel
theorem zvl_11_412 : vl 11 412 = some (158, 2) := by decide +kernel
theorem zl_158 : mL 158 = 3 := by decide +kernel
theorem zo_158 : mO 158 = 1 := by decide +kernel
theorem zo_159 : mO 159 = 11 := by decide +kernel
theorem zr_159 : mR 159 = some .int := by decide +kernel
theorem zr_160 : mR 160 = some .int := by decide +kernel
theorem zvl_11_416 : vl 11 416 = some (160, 1) := by decide +kernel
theorem zl_160 : mL 160 = 5 := by decide +kernel
theorem zo_160 : mO 160 = 1 := by decide +kernel
theorem zo_164 : mO 164 = 11 := by decide +kernel
theorem zr_164 : mR 164 = some .int := by decide +kernel
theorem zr_165 : mR 165 = some .boolean := by decide +kernel
theorem zsl_11_422 : sl 11 422 = some (165, 1) := by decide +kernel
theorem zl_165 : mL 165 = 1 := by decide +kernel
theorem zr_166 : mR 166 = some .int := by decide +kernel
theorem zvl_11_425 : vl 11 425 = some (166, 4) := by decide +kernel
theorem zl_166 : mL 166 = 6 := by decide +kernel
theorem zo_166 : mO 166 = 11 := by decide +kernel
theorem zo_167 : mO 167 = 11 := by decide +kernel
theorem zr_167 : mR 167 = some .int := by decide +kernel
theorem zo_168 : mO 168 = 11 := by decide +kernel
theorem zr_168 : mR 168 = some .int := by decide +kernel
theorem zr_73 : mR 73 = some .boolean := by decide +kernel
theorem zsl_11_268 : sl 11 268 = some (73, 1) := by decide +kernel
theorem zl_73 : mL 73 = 1 := by decide +kernel
theorem zo_169 : mO 169 = 11 := by decide +kernel
theorem zr_169 : mR 169 = some .int := by decide +kernel
theorem zo_170 : mO 170 = 11 := by decide +kernel
theorem zr_170 : mR 170 = some .int := by decide +kernel
theorem zr_172 : mR 172 = some .int := by decide +kernel
theorem zvl_11_437 : vl 11 437 = some (172, 1) := by decide +kernel
theorem zl_172 : mL 172 = 4 := by decide +kernel
theorem zo_172 : mO 172 = 5 := by decide +kernel
theorem zr_171 : mR 171 = some .int := by decide +kernel
theorem zvl_11_434 : vl 11 434 = some (171, 0) := by decide +kernel
theorem zl_171 : mL 171 = 3 := by decide +kernel
theorem zo_171 : mO 171 = 5 := by decide +kernel
theorem zo_173 : mO 173 = 11 := by decide +kernel
theorem zr_173 : mR 173 = some .int := by decide +kernel
theorem zo_174 : mO 174 = 11 := by decide +kernel
theorem zr_174 : mR 174 = some .int := by decide +kernel
theorem zo_175 : mO 175 = 11 := by decide +kernel
theorem zr_175 : mR 175 = some .int := by decide +kernel
theorem zo_176 : mO 176 = 11 := by decide +kernel
theorem zr_176 : mR 176 = some .int := by decide +kernel
theorem zr_83 : mR 83 = some .int := by decide +kernel
theorem zvl_11_191 : vl 11 191 = some (83, 1) := by decide +kernel
theorem zl_83 : mL 83 = 2 := by decide +kernel
theorem zo_83 : mO 83 = 5 := by decide +kernel
theorem zlt_97 : 97 < nC := by decide +kernel
theorem zo_177 : mO 177 = 12 := by decide +kernel
theorem zfl_12_96 : fl 12 96 = some (12, 0) := by decide +kernel
theorem zk1_97 : (mk 97).1 = 12 := by decide +kernel
theorem zft_12_0 : ft 12 0 = 0 := by decide +kernel
theorem zr_177 : mR 177 = some .int := by decide +kernel
theorem zo_178 : mO 178 = 12 := by decide +kernel
theorem zfl_12_109 : fl 12 109 = some (12, 6) := by decide +kernel
theorem zft_12_6 : ft 12 6 = 0 := by decide +kernel
theorem zr_179 : mR 179 = some .int := by decide +kernel
theorem zsl_12_111 : sl 12 111 = some (179, 1) := by decide +kernel
theorem zl_179 : mL 179 = 3 := by decide +kernel
theorem zr_180 : mR 180 = none := by decide +kernel
theorem zvl_12_115 : vl 12 115 = some (180, 1) := by decide +kernel
theorem zl_180 : mL 180 = 3 := by decide +kernel
theorem zo_180 : mO 180 = 12 := by decide +kernel
theorem zr_178 : mR 178 = some .int := by decide +kernel
theorem zo_181 : mO 181 = 12 := by decide +kernel
theorem zr_181 : mR 181 = some .boolean := by decide +kernel
theorem zo_182 : mO 182 = 12 := by decide +kernel
theorem zll_12_275 : ll 12 275 = some 2 := by decide +kernel
theorem zr_183 : mR 183 = some .boolean := by decide +kernel
theorem zsl_12_217 : sl 12 217 = some (183, 3) := by decide +kernel
theorem zl_183 : mL 183 = 6 := by decide +kernel
theorem zr_184 : mR 184 = none := by decide +kernel
theorem zvl_12_277 : vl 12 277 = some (184, 0) := by decide +kernel
theorem zl_184 : mL 184 = 2 := by decide +kernel
theorem zo_184 : mO 184 = 12 := by decide +kernel
theorem zr_182 : mR 182 = some .int := by decide +kernel
theorem zo_216 : mO 216 = 12 := by decide +kernel
theorem zr_216 : mR 216 = some .int := by decide +kernel
theorem zfl_12_289 : fl 12 289 = some (12, 30) := by decide +kernel
theorem zft_12_30 : ft 12 30 = 0 := by decide +kernel
theorem zfl_12_286 : fl 12 286 = some (12, 7) := by decide +kernel
theorem zft_12_7 : ft 12 7 = 0 := by decide +kernel
theorem zo_218 : mO 218 = 12 := by decide +kernel
theorem zfl_12_294 : fl 12 294 = some (12, 26) := by decide +kernel
theorem zft_12_26 : ft 12 26 = 0 := by decide +kernel
theorem zr_218 : mR 218 = some .int := by decide +kernel
theorem zll_12_360 : ll 12 360 = some 4 := by decide +kernel
theorem zfl_12_61 : fl 12 61 = some (12, 32) := by decide +kernel
theorem zft_12_32 : ft 12 32 = 2 := by decide +kernel
theorem zmr_97_32 : mr 97 32 = 110 := by decide +kernel
theorem zb_32 : toB 32 = 32 := by decide +kernel
theorem zk_110 : mk 110 = (100, 277) := by decide +kernel
theorem zb_33 : toB 33 = 33 := by decide +kernel
theorem zb_31 : toB 31 = 31 := by decide +kernel
theorem zfl_12_37 : fl 12 37 = some (12, 18) := by decide +kernel
theorem zft_12_18 : ft 12 18 = 2 := by decide +kernel
theorem zmr_97_18 : mr 97 18 = 102 := by decide +kernel
theorem zk_102 : mk 102 = (100, 4) := by decide +kernel
theorem zb_34 : toB 34 = 34 := by decide +kernel
theorem zo_219 : mO 219 = 12 := by decide +kernel
theorem zr_220 : mR 220 = some .boolean := by decide +kernel
theorem zvl_12_362 : vl 12 362 = some (220, 1) := by decide +kernel
theorem zl_220 : mL 220 = 2 := by decide +kernel
theorem zo_220 : mO 220 = 12 := by decide +kernel
theorem zr_219 : mR 219 = some .int := by decide +kernel
theorem zll_12_365 : ll 12 365 = some 3 := by decide +kernel
theorem zfl_12_43 : fl 12 43 = some (12, 20) := by decide +kernel
theorem zft_12_20 : ft 12 20 = 2 := by decide +kernel
theorem zmr_97_20 : mr 97 20 = 104 := by decide +kernel
theorem zk_104 : mk 104 = (100, 24) := by decide +kernel
theorem zb_8 : toB 8 = 8 := by decide +kernel
theorem zr_222 : mR 222 = some .boolean := by decide +kernel
theorem zo_221 : mO 221 = 12 := by decide +kernel
theorem zvl_12_339 : vl 12 339 = some (222, 1) := by decide +kernel
theorem zl_222 : mL 222 = 2 := by decide +kernel
theorem zo_222 : mO 222 = 12 := by decide +kernel
theorem zo_224 : mO 224 = 12 := by decide +kernel
theorem zfl_12_67 : fl 12 67 = some (12, 34) := by decide +kernel
theorem zft_12_34 : ft 12 34 = 0 := by decide +kernel
theorem zr_224 : mR 224 = some .boolean := by decide +kernel
theorem zo_225 : mO 225 = 12 := by decide +kernel
theorem zll_12_367 : ll 12 367 = some 9 := by decide +kernel
theorem zr_225 : mR 225 = some .boolean := by decide +kernel
theorem zfl_12_369 : fl 12 369 = some (12, 35) := by decide +kernel
theorem zft_12_35 : ft 12 35 = 0 := by decide +kernel
theorem zo_226 : mO 226 = 12 := by decide +kernel
theorem zr_227 : mR 227 = some .boolean := by decide +kernel
theorem zvl_12_372 : vl 12 372 = some (227, 4) := by decide +kernel
theorem zl_227 : mL 227 = 5 := by decide +kernel
theorem zo_227 : mO 227 = 12 := by decide +kernel
theorem zr_226 : mR 226 = some .int := by decide +kernel
theorem zll_12_376 : ll 12 376 = some 63 := by decide +kernel
theorem zr_217 : mR 217 = some .int := by decide +kernel
theorem zsl_12_300 : sl 12 300 = some (217, 1) := by decide +kernel
theorem zl_217 : mL 217 = 1 := by decide +kernel
theorem zr_76 : mR 76 = some .int := by decide +kernel
theorem zsl_12_355 : sl 12 355 = some (76, 1) := by decide +kernel
theorem zl_76 : mL 76 = 1 := by decide +kernel
theorem zr_229 : mR 229 = none := by decide +kernel
theorem zvl_12_378 : vl 12 378 = some (229, 0) := by decide +kernel
theorem zl_229 : mL 229 = 2 := by decide +kernel
theorem zo_229 : mO 229 = 12 := by decide +kernel
theorem zr_230 : mR 230 = some .int := by decide +kernel
theorem zvl_12_381 : vl 12 381 = some (230, 5) := by decide +kernel
theorem zl_230 : mL 230 = 9 := by decide +kernel
theorem zo_230 : mO 230 = 12 := by decide +kernel
theorem zo_237 : mO 237 = 12 := by decide +kernel
theorem zr_238 : mR 238 = some .boolean := by decide +kernel
theorem zvl_12_386 : vl 12 386 = some (238, 3) := by decide +kernel
theorem zl_238 : mL 238 = 4 := by decide +kernel
theorem zo_238 : mO 238 = 12 := by decide +kernel
theorem zr_237 : mR 237 = some .boolean := by decide +kernel
theorem zo_239 : mO 239 = 12 := by decide +kernel
theorem zr_239 : mR 239 = some .int := by decide +kernel
theorem zo_240 : mO 240 = 12 := by decide +kernel
theorem zr_240 : mR 240 = some .int := by decide +kernel
theorem zll_12_390 : ll 12 390 = some 50 := by decide +kernel
theorem zo_241 : mO 241 = 12 := by decide +kernel
theorem zr_242 : mR 242 = some .boolean := by decide +kernel
theorem zvl_12_392 : vl 12 392 = some (242, 3) := by decide +kernel
theorem zl_242 : mL 242 = 4 := by decide +kernel
theorem zo_242 : mO 242 = 12 := by decide +kernel
theorem zr_243 : mR 243 = none := by decide +kernel
theorem zsl_12_395 : sl 12 395 = some (243, 3) := by decide +kernel
theorem zl_243 : mL 243 = 3 := by decide +kernel
theorem zr_241 : mR 241 = some .boolean := by decide +kernel
theorem zo_244 : mO 244 = 12 := by decide +kernel
theorem zr_244 : mR 244 = some .boolean := by decide +kernel
theorem zo_245 : mO 245 = 12 := by decide +kernel
theorem zb_60 : toB 60 = 60 := by decide +kernel
theorem zr_246 : mR 246 = some .boolean := by decide +kernel
theorem zvl_12_399 : vl 12 399 = some (246, 3) := by decide +kernel
theorem zl_246 : mL 246 = 4 := by decide +kernel
theorem zo_246 : mO 246 = 12 := by decide +kernel
theorem zr_245 : mR 245 = some .int := by decide +kernel
theorem zo_248 : mO 248 = 12 := by decide +kernel
theorem zfl_12_406 : fl 12 406 = some (12, 38) := by decide +kernel
theorem zft_12_38 : ft 12 38 = 1 := by decide +kernel
theorem zr_248 : mR 248 = some .int := by decide +kernel
theorem zo_251 : mO 251 = 12 := by decide +kernel
theorem zfl_12_309 : fl 12 309 = some (12, 37) := by decide +kernel
theorem zft_12_37 : ft 12 37 = 0 := by decide +kernel
theorem zr_251 : mR 251 = some .int := by decide +kernel
theorem zo_252 : mO 252 = 12 := by decide +kernel
theorem zb_36 : toB 36 = 36 := by decide +kernel
theorem zcl_12_421 : cl_ 12 421 = some (-1000000) := by decide +kernel
theorem zr_252 : mR 252 = some .int := by decide +kernel
theorem zb_37 : toB 37 = 37 := by decide +kernel
theorem zo_253 : mO 253 = 12 := by decide +kernel
theorem zr_254 : mR 254 = some .boolean := by decide +kernel
theorem zvl_12_422 : vl 12 422 = some (254, 1) := by decide +kernel
theorem zl_254 : mL 254 = 2 := by decide +kernel
theorem zo_254 : mO 254 = 12 := by decide +kernel
theorem zr_253 : mR 253 = some .int := by decide +kernel
theorem zfl_12_58 : fl 12 58 = some (12, 25) := by decide +kernel
theorem zft_12_25 : ft 12 25 = 2 := by decide +kernel
theorem zmr_97_25 : mr 97 25 = 109 := by decide +kernel
theorem zk_109 : mk 109 = (100, 5) := by decide +kernel
theorem zfl_12_55 : fl 12 55 = some (12, 24) := by decide +kernel
theorem zft_12_24 : ft 12 24 = 2 := by decide +kernel
theorem zmr_97_24 : mr 97 24 = 108 := by decide +kernel
theorem zk_108 : mk 108 = (100, 320) := by decide +kernel
theorem zo_255 : mO 255 = 12 := by decide +kernel
theorem zr_255 : mR 255 = some .int := by decide +kernel
theorem zfl_12_64 : fl 12 64 = some (12, 33) := by decide +kernel
theorem zft_12_33 : ft 12 33 = 2 := by decide +kernel
theorem zmr_97_33 : mr 97 33 = 111 := by decide +kernel
theorem zr_256 : mR 256 = none := by decide +kernel
theorem zsl_12_425 : sl 12 425 = some (256, 2) := by decide +kernel
theorem zl_256 : mL 256 = 4 := by decide +kernel
theorem zo_260 : mO 260 = 12 := by decide +kernel
theorem zr_260 : mR 260 = some .int := by decide +kernel
theorem zo_261 : mO 261 = 12 := by decide +kernel
theorem zr_262 : mR 262 = some .boolean := by decide +kernel
theorem zvl_12_439 : vl 12 439 = some (262, 4) := by decide +kernel
theorem zl_262 : mL 262 = 5 := by decide +kernel
theorem zo_262 : mO 262 = 12 := by decide +kernel
theorem zr_261 : mR 261 = some .int := by decide +kernel
theorem zr_231 : mR 231 = some .int := by decide +kernel
theorem zvl_12_348 : vl 12 348 = some (231, 5) := by decide +kernel
theorem zl_231 : mL 231 = 6 := by decide +kernel
theorem zo_231 : mO 231 = 12 := by decide +kernel
theorem zr_235 : mR 235 = some .int := by decide +kernel
theorem zvl_12_352 : vl 12 352 = some (235, 1) := by decide +kernel
theorem zl_235 : mL 235 = 3 := by decide +kernel
theorem zo_235 : mO 235 = 12 := by decide +kernel
theorem zo_263 : mO 263 = 12 := by decide +kernel
theorem zr_263 : mR 263 = some .int := by decide +kernel
theorem zr_264 : mR 264 = none := by decide +kernel
theorem zvl_12_443 : vl 12 443 = some (264, 1) := by decide +kernel
theorem zl_264 : mL 264 = 6 := by decide +kernel
theorem zo_264 : mO 264 = 12 := by decide +kernel
theorem zr_265 : mR 265 = some .int := by decide +kernel
theorem zvl_12_446 : vl 12 446 = some (265, 3) := by decide +kernel
theorem zl_265 : mL 265 = 4 := by decide +kernel
theorem zo_265 : mO 265 = 12 := by decide +kernel
theorem zo_266 : mO 266 = 12 := by decide +kernel
theorem zr_266 : mR 266 = some .int := by decide +kernel
theorem zr_267 : mR 267 = some .boolean := by decide +kernel
theorem zvl_12_463 : vl 12 463 = some (267, 3) := by decide +kernel
theorem zl_267 : mL 267 = 4 := by decide +kernel
theorem zo_267 : mO 267 = 12 := by decide +kernel
theorem zfl_12_453 : fl 12 453 = some (12, 41) := by decide +kernel
theorem zft_12_41 : ft 12 41 = 0 := by decide +kernel
theorem zfl_12_456 : fl 12 456 = some (12, 42) := by decide +kernel
theorem zft_12_42 : ft 12 42 = 0 := by decide +kernel
theorem zo_269 : mO 269 = 12 := by decide +kernel
theorem zr_269 : mR 269 = some .int := by decide +kernel
theorem zr_270 : mR 270 = some .int := by decide +kernel
theorem zvl_12_471 : vl 12 471 = some (270, 3) := by decide +kernel
theorem zl_270 : mL 270 = 7 := by decide +kernel
theorem zo_270 : mO 270 = 12 := by decide +kernel
theorem zo_271 : mO 271 = 12 := by decide +kernel
theorem zr_271 : mR 271 = some .int := by decide +kernel
theorem zo_272 : mO 272 = 12 := by decide +kernel
theorem zr_272 : mR 272 = some .int := by decide +kernel
theorem zll_12_384 : ll 12 384 = some 5 := by decide +kernel
theorem zr_273 : mR 273 = none := by decide +kernel
theorem zvl_12_481 : vl 12 481 = some (273, 0) := by decide +kernel
theorem zl_273 : mL 273 = 2 := by decide +kernel
theorem zo_273 : mO 273 = 12 := by decide +kernel
theorem zr_274 : mR 274 = some .int := by decide +kernel
theorem zvl_12_484 : vl 12 484 = some (274, 1) := by decide +kernel
theorem zl_274 : mL 274 = 4 := by decide +kernel
theorem zo_274 : mO 274 = 12 := by decide +kernel
theorem zo_277 : mO 277 = 12 := by decide +kernel
theorem zr_277 : mR 277 = some .int := by decide +kernel
theorem zll_12_487 : ll 12 487 = some (-60) := by decide +kernel
theorem zll_12_489 : ll 12 489 = some 100 := by decide +kernel
theorem zfl_12_303 : fl 12 303 = some (12, 46) := by decide +kernel
theorem zft_12_46 : ft 12 46 = 0 := by decide +kernel
theorem zb_10 : toB 10 = 10 := by decide +kernel
theorem zw_5 : wI 5 = 5 := by decide +kernel
theorem zfl_12_80 : fl 12 80 = some (12, 44) := by decide +kernel
theorem zft_12_44 : ft 12 44 = 2 := by decide +kernel
theorem zmr_97_44 : mr 97 44 = 115 := by decide +kernel
theorem zk_115 : mk 115 = (100, 50) := by decide +kernel
theorem zo_278 : mO 278 = 12 := by decide +kernel
theorem zr_278 : mR 278 = some .int := by decide +kernel
theorem zo_280 : mO 280 = 12 := by decide +kernel
theorem zr_280 : mR 280 = some .int := by decide +kernel
theorem zo_281 : mO 281 = 12 := by decide +kernel
theorem zr_282 : mR 282 = some .int := by decide +kernel
theorem zvl_12_497 : vl 12 497 = some (282, 2) := by decide +kernel
theorem zl_282 : mL 282 = 7 := by decide +kernel
theorem zo_282 : mO 282 = 12 := by decide +kernel
theorem zr_281 : mR 281 = some .int := by decide +kernel
theorem zo_284 : mO 284 = 12 := by decide +kernel
theorem zr_284 : mR 284 = some .int := by decide +kernel
theorem zo_285 : mO 285 = 12 := by decide +kernel
theorem zr_286 : mR 286 = some .boolean := by decide +kernel
theorem zvl_12_500 : vl 12 500 = some (286, 3) := by decide +kernel
theorem zl_286 : mL 286 = 4 := by decide +kernel
theorem zo_286 : mO 286 = 12 := by decide +kernel
theorem zr_285 : mR 285 = some .int := by decide +kernel
theorem zr_287 : mR 287 = some .int := by decide +kernel
theorem zvl_12_503 : vl 12 503 = some (287, 4) := by decide +kernel
theorem zl_287 : mL 287 = 6 := by decide +kernel
theorem zo_287 : mO 287 = 12 := by decide +kernel
theorem zo_288 : mO 288 = 12 := by decide +kernel
theorem zr_288 : mR 288 = some .int := by decide +kernel
theorem zo_289 : mO 289 = 12 := by decide +kernel
theorem zr_289 : mR 289 = some .int := by decide +kernel
theorem zfl_12_306 : fl 12 306 = some (12, 49) := by decide +kernel
theorem zft_12_49 : ft 12 49 = 0 := by decide +kernel
theorem zb_12 : toB 12 = 12 := by decide +kernel
theorem zfl_12_86 : fl 12 86 = some (12, 47) := by decide +kernel
theorem zft_12_47 : ft 12 47 = 2 := by decide +kernel
theorem zmr_97_47 : mr 97 47 = 117 := by decide +kernel
theorem zk_117 : mk 117 = (100, 12) := by decide +kernel
theorem zfl_12_89 : fl 12 89 = some (12, 48) := by decide +kernel
theorem zft_12_48 : ft 12 48 = 2 := by decide +kernel
theorem zmr_97_48 : mr 97 48 = 118 := by decide +kernel
theorem zk_118 : mk 118 = (102, 12) := by decide +kernel
theorem zo_290 : mO 290 = 12 := by decide +kernel
theorem zr_290 : mR 290 = some .int := by decide +kernel
theorem zr_291 : mR 291 = some .int := by decide +kernel
theorem zvl_12_511 : vl 12 511 = some (291, 1) := by decide +kernel
theorem zl_291 : mL 291 = 5 := by decide +kernel
theorem zo_291 : mO 291 = 12 := by decide +kernel
theorem zo_293 : mO 293 = 12 := by decide +kernel
theorem zo_294 : mO 294 = 12 := by decide +kernel
theorem zr_294 : mR 294 = some .int := by decide +kernel
theorem zll_12_346 : ll 12 346 = some 20 := by decide +kernel
theorem zo_295 : mO 295 = 12 := by decide +kernel
theorem zr_295 : mR 295 = some .int := by decide +kernel
theorem zo_297 : mO 297 = 12 := by decide +kernel
theorem zr_297 : mR 297 = some .int := by decide +kernel
theorem zr_298 : mR 298 = some .int := by decide +kernel
theorem zvl_12_518 : vl 12 518 = some (298, 1) := by decide +kernel
theorem zl_298 : mL 298 = 4 := by decide +kernel
theorem zo_298 : mO 298 = 12 := by decide +kernel
theorem zo_299 : mO 299 = 12 := by decide +kernel
theorem zr_299 : mR 299 = some .int := by decide +kernel
theorem zo_300 : mO 300 = 12 := by decide +kernel
theorem zr_300 : mR 300 = some .int := by decide +kernel
theorem zo_301 : mO 301 = 12 := by decide +kernel
theorem zr_301 : mR 301 = some .int := by decide +kernel
theorem zo_302 : mO 302 = 12 := by decide +kernel
theorem zr_302 : mR 302 = some .int := by decide +kernel
theorem zo_303 : mO 303 = 12 := by decide +kernel
theorem zr_228 : mR 228 = some .boolean := by decide +kernel
theorem zvl_12_342 : vl 12 342 = some (228, 2) := by decide +kernel
theorem zl_228 : mL 228 = 3 := by decide +kernel
theorem zo_228 : mO 228 = 12 := by decide +kernel
theorem zr_303 : mR 303 = some .int := by decide +kernel
theorem zr_223 : mR 223 = some .int := by decide +kernel
theorem zvl_12_315 : vl 12 315 = some (223, 2) := by decide +kernel
theorem zl_223 : mL 223 = 3 := by decide +kernel
theorem zo_223 : mO 223 = 12 := by decide +kernel
theorem zo_304 : mO 304 = 12 := by decide +kernel
theorem zfl_12_93 : fl 12 93 = some (12, 50) := by decide +kernel
theorem zft_12_50 : ft 12 50 = 2 := by decide +kernel
theorem zmr_97_50 : mr 97 50 = 119 := by decide +kernel
theorem zfl_12_312 : fl 12 312 = some (12, 51) := by decide +kernel
theorem zft_12_51 : ft 12 51 = 5 := by decide +kernel
theorem zb_35 : toB 35 = 35 := by decide +kernel
theorem zr_304 : mR 304 = some .int := by decide +kernel
theorem zo_305 : mO 305 = 12 := by decide +kernel
theorem zr_305 : mR 305 = some .int := by decide +kernel
theorem zo_306 : mO 306 = 12 := by decide +kernel
theorem zr_306 : mR 306 = some .int := by decide +kernel
theorem zfl_12_297 : fl 12 297 = some (12, 27) := by decide +kernel
theorem zft_12_27 : ft 12 27 = 0 := by decide +kernel
theorem zb_24 : toB 24 = 24 := by decide +kernel
theorem zlt_3 : 3 < nC := by decide +kernel
theorem zfl_6_18 : fl 6 18 = some (6, 1) := by decide +kernel
theorem zft_6_1 : ft 6 1 = 2 := by decide +kernel
theorem zmr_3_1 : mr 3 1 = 1 := by decide +kernel
theorem zfl_6_22 : fl 6 22 = some (10, 2) := by decide +kernel
theorem zft_10_2 : ft 10 2 = 0 := by decide +kernel
theorem zr_6 : mR 6 = some .boolean := by decide +kernel
theorem zvl_6_28 : vl 6 28 = some (6, 0) := by decide +kernel
theorem zl_6 : mL 6 = 2 := by decide +kernel
theorem zo_6 : mO 6 = 6 := by decide +kernel
theorem zlt_5 : 5 < nC := by decide +kernel
theorem zfl_3_17 : fl 3 17 = some (3, 2) := by decide +kernel
theorem zft_3_2 : ft 3 2 = 2 := by decide +kernel
theorem zmr_5_2 : mr 5 2 = 1 := by decide +kernel
theorem zfl_3_21 : fl 3 21 = some (10, 2) := by decide +kernel
theorem zfl_3_25 : fl 3 25 = some (3, 1) := by decide +kernel
theorem zft_3_1 : ft 3 1 = 0 := by decide +kernel
theorem zlt_7 : 7 < nC := by decide +kernel
theorem zfl_8_23 : fl 8 23 = some (8, 5) := by decide +kernel
theorem zft_8_5 : ft 8 5 = 2 := by decide +kernel
theorem zmr_7_5 : mr 7 5 = 1 := by decide +kernel
theorem zfl_8_44 : fl 8 44 = some (10, 2) := by decide +kernel
theorem zr_56 : mR 56 = some .boolean := by decide +kernel
theorem zvl_11_122 : vl 11 122 = some (56, 0) := by decide +kernel
theorem zl_56 : mL 56 = 1 := by decide +kernel
theorem zo_56 : mO 56 = 4 := by decide +kernel
theorem zfl_11_126 : fl 11 126 = some (3, 0) := by decide +kernel
theorem zft_3_0 : ft 3 0 = 2 := by decide +kernel
theorem zmr_5_0 : mr 5 0 = 22 := by decide +kernel
theorem zfl_11_130 : fl 11 130 = some (3, 1) := by decide +kernel
theorem zr_57 : mR 57 = some .int := by decide +kernel
theorem zvl_11_133 : vl 11 133 = some (57, 2) := by decide +kernel
theorem zl_57 : mL 57 = 3 := by decide +kernel
theorem zo_57 : mO 57 = 4 := by decide +kernel
theorem zfl_11_140 : fl 11 140 = some (6, 0) := by decide +kernel
theorem zft_6_0 : ft 6 0 = 2 := by decide +kernel
theorem zmr_3_0 : mr 3 0 = 4 := by decide +kernel
theorem zr_46 : mR 46 = none := by decide +kernel
theorem zvl_11_143 : vl 11 143 = some (46, 1) := by decide +kernel
theorem zl_46 : mL 46 = 2 := by decide +kernel
theorem zo_46 : mO 46 = 5 := by decide +kernel
theorem zr_47 : mR 47 = none := by decide +kernel
theorem zvl_11_147 : vl 11 147 = some (47, 1) := by decide +kernel
theorem zl_47 : mL 47 = 3 := by decide +kernel
theorem zo_47 : mO 47 = 9 := by decide +kernel
theorem zr_54 : mR 54 = none := by decide +kernel
theorem zvl_11_153 : vl 11 153 = some (54, 0) := by decide +kernel
theorem zl_54 : mL 54 = 1 := by decide +kernel
theorem zo_54 : mO 54 = 1 := by decide +kernel
theorem zr_55 : mR 55 = none := by decide +kernel
theorem zvl_11_154 : vl 11 154 = some (55, 0) := by decide +kernel
theorem zl_55 : mL 55 = 1 := by decide +kernel
theorem zo_55 : mO 55 = 0 := by decide +kernel
theorem zlt_2 : 2 < nC := by decide +kernel
theorem zfl_5_27 : fl 5 27 = some (5, 3) := by decide +kernel
theorem zfl_5_11 : fl 5 11 = some (5, 0) := by decide +kernel
theorem zft_5_0 : ft 5 0 = 2 := by decide +kernel
theorem zmr_2_0 : mr 2 0 = 16 := by decide +kernel
theorem zk_16 : mk 16 = (100, 4) := by decide +kernel
theorem zfl_5_15 : fl 5 15 = some (5, 1) := by decide +kernel
theorem zft_5_1 : ft 5 1 = 2 := by decide +kernel
theorem zmr_2_1 : mr 2 1 = 17 := by decide +kernel
theorem zk_17 : mk 17 = (100, 24) := by decide +kernel
theorem zlt_12 : 12 < nC := by decide +kernel
theorem zfl_9_15 : fl 9 15 = some (9, 0) := by decide +kernel
theorem zsl_9_64 : sl 9 64 = none := by decide +kernel
theorem zml_9_64 : ml 9 64 = some 1 := by decide +kernel
theorem zna_9_64 : ¬ (9, 64) ∈ aL := by decide +kernel
theorem zb_63 : toB 63 = 63 := by decide +kernel
theorem zsl_11_271 : sl 11 271 = some (76, 1) := by decide +kernel
theorem zfl_2_16 : fl 2 16 = some (9, 0) := by decide +kernel
theorem zlt_11 : 11 < nC := by decide +kernel
theorem zfl_2_13 : fl 2 13 = some (2, 1) := by decide +kernel
theorem zft_2_1 : ft 2 1 = 2 := by decide +kernel
theorem zmr_11_1 : mr 11 1 = 50 := by decide +kernel
theorem zfl_2_20 : fl 2 20 = some (2, 2) := by decide +kernel
theorem zft_2_2 : ft 2 2 = 0 := by decide +kernel
theorem zk_50 : mk 50 = (104, 40) := by decide +kernel
theorem zmr_50_0 : mr 50 0 = 51 := by decide +kernel
theorem zsl_2_24 : sl 2 24 = none := by decide +kernel
theorem zal_2_24 : (2, 24) ∈ aL := by decide +kernel
theorem zgrid_51 : ∀ j, j < 40 → mk (51 + j) = (100, 37) := by decide +kernel
theorem zb_40 : toB 40 = 40 := by decide +kernel
theorem zfl_2_30 : fl 2 30 = some (2, 0) := by decide +kernel
theorem zsl_2_33 : sl 2 33 = none := by decide +kernel
theorem zml_2_33 : ml 2 33 = some 1 := by decide +kernel
theorem zna_2_33 : ¬ (2, 33) ∈ aL := by decide +kernel
theorem zr_88 : mR 88 = none := by decide +kernel
theorem zvl_11_285 : vl 11 285 = some (88, 3) := by decide +kernel
theorem zl_88 : mL 88 = 4 := by decide +kernel
theorem zo_88 : mO 88 = 9 := by decide +kernel
theorem zr_89 : mR 89 = none := by decide +kernel
theorem zvl_11_289 : vl 11 289 = some (89, 4) := by decide +kernel
theorem zl_89 : mL 89 = 6 := by decide +kernel
theorem zo_89 : mO 89 = 9 := by decide +kernel
theorem zs_9999 : (Int16.ofInt 9999).toInt32.toInt = 9999 := by decide +kernel
theorem zr_100 : mR 100 = none := by decide +kernel
theorem zvl_11_252 : vl 11 252 = some (100, 1) := by decide +kernel
theorem zl_100 : mL 100 = 3 := by decide +kernel
theorem zo_100 : mO 100 = 9 := by decide +kernel
theorem zr_102 : mR 102 = some .long := by decide +kernel
theorem zvl_11_255 : vl 11 255 = some (102, 1) := by decide +kernel
theorem zl_102 : mL 102 = 8 := by decide +kernel
theorem zo_102 : mO 102 = 11 := by decide +kernel
theorem zfl_9_19 : fl 9 19 = some (9, 1) := by decide +kernel
theorem zft_9_1 : ft 9 1 = 2 := by decide +kernel
theorem zmr_12_1 : mr 12 1 = 92 := by decide +kernel
theorem zk_92 : mk 92 = (100, 400) := by decide +kernel
theorem zlt_14 : 14 < nC := by decide +kernel
theorem zmr_14_0 : mr 14 0 = 95 := by decide +kernel
theorem zsl_9_52 : sl 9 52 = none := by decide +kernel
theorem zal_9_52 : (9, 52) ∈ aL := by decide +kernel
theorem zk_95 : mk 95 = (100, 37) := by decide +kernel
theorem zmr_14_1 : mr 14 1 = 96 := by decide +kernel
theorem zk_96 : mk 96 = (100, 400) := by decide +kernel
theorem zfl_8_27 : fl 8 27 = some (8, 1) := by decide +kernel
theorem zfl_8_17 : fl 8 17 = some (8, 2) := by decide +kernel
theorem zft_8_2 : ft 8 2 = 2 := by decide +kernel
theorem zmr_7_2 : mr 7 2 = 32 := by decide +kernel
theorem zk_32 : mk 32 = (104, 4) := by decide +kernel
theorem zmr_32_0 : mr 32 0 = 33 := by decide +kernel
theorem zgrid_33 : ∀ j, j < 4 → mk (33 + j) = (100, 64) := by decide +kernel
theorem zlt_13 : 13 < nC := by decide +kernel
theorem zmr_13_1 : mr 13 1 = 94 := by decide +kernel
theorem zk_94 : mk 94 = (100, 400) := by decide +kernel
theorem zfl_0_66 : fl 0 66 = some (9, 0) := by decide +kernel
theorem zr_80 : mR 80 = some .int := by decide +kernel
theorem zsl_0_71 : sl 0 71 = some (80, 3) := by decide +kernel
theorem zl_80 : mL 80 = 3 := by decide +kernel
theorem zlt_8 : 8 < nC := by decide +kernel
theorem zr_81 : mR 81 = some .int := by decide +kernel
theorem zvl_0_75 : vl 0 75 = some (81, 5) := by decide +kernel
theorem zl_81 : mL 81 = 9 := by decide +kernel
theorem zo_81 : mO 81 = 0 := by decide +kernel
theorem zfl_0_20 : fl 0 20 = some (0, 0) := by decide +kernel
theorem zft_0_0 : ft 0 0 = 2 := by decide +kernel
theorem zmr_8_0 : mr 8 0 = 2 := by decide +kernel
theorem zvl_0_79 : vl 0 79 = some (18, 1) := by decide +kernel
theorem zr_86 : mR 86 = some .int := by decide +kernel
theorem zsl_0_82 : sl 0 82 = some (86, 3) := by decide +kernel
theorem zl_86 : mL 86 = 3 := by decide +kernel
theorem zfl_0_24 : fl 0 24 = some (0, 1) := by decide +kernel
theorem zft_0_1 : ft 0 1 = 2 := by decide +kernel
theorem zmr_8_1 : mr 8 1 = 6 := by decide +kernel
theorem zfl_0_41 : fl 0 41 = some (4, 2) := by decide +kernel
theorem zs_1000 : (Int16.ofInt 1000).toInt32.toInt = 1000 := by decide +kernel
theorem zfl_0_17 : fl 0 17 = some (0, 3) := by decide +kernel
theorem zft_0_3 : ft 0 3 = 2 := by decide +kernel
theorem zmr_8_3 : mr 8 3 = 39 := by decide +kernel
theorem zk_39 : mk 39 = (100, 40) := by decide +kernel
theorem zfl_0_13 : fl 0 13 = some (0, 2) := by decide +kernel
theorem zft_0_2 : ft 0 2 = 2 := by decide +kernel
theorem zmr_8_2 : mr 8 2 = 38 := by decide +kernel
theorem zk_38 : mk 38 = (100, 320) := by decide +kernel
theorem zr_126 : mR 126 = none := by decide +kernel
theorem zvl_0_85 : vl 0 85 = some (126, 3) := by decide +kernel
theorem zl_126 : mL 126 = 10 := by decide +kernel
theorem zo_126 : mO 126 = 0 := by decide +kernel
theorem zlt_9 : 9 < nC := by decide +kernel
theorem zfl_7_11 : fl 7 11 = some (7, 0) := by decide +kernel
theorem zr_48 : mR 48 = none := by decide +kernel
theorem zsl_7_37 : sl 7 37 = some (48, 2) := by decide +kernel
theorem zl_48 : mL 48 = 4 := by decide +kernel
theorem zfl_7_17 : fl 7 17 = some (7, 1) := by decide +kernel
theorem zfl_7_20 : fl 7 20 = some (7, 2) := by decide +kernel
theorem zfl_7_57 : fl 7 57 = some (9, 0) := by decide +kernel
theorem zfl_7_26 : fl 7 26 = some (7, 4) := by decide +kernel
theorem zft_7_4 : ft 7 4 = 2 := by decide +kernel
theorem zmr_9_4 : mr 9 4 = 44 := by decide +kernel
theorem zsl_7_62 : sl 7 62 = none := by decide +kernel
theorem zal_7_62 : (7, 62) ∈ aL := by decide +kernel
theorem zk_44 : mk 44 = (100, 5) := by decide +kernel
theorem zll_11_363 : ll 11 363 = some 1000000000 := by decide +kernel
theorem zsl_11_377 : sl 11 377 = some (80, 3) := by decide +kernel
theorem zvl_11_380 : vl 11 380 = some (81, 5) := by decide +kernel
theorem zsl_11_384 : sl 11 384 = some (86, 3) := by decide +kernel
theorem zfl_5_18 : fl 5 18 = some (5, 2) := by decide +kernel
theorem zft_5_2 : ft 5 2 = 2 := by decide +kernel
theorem zmr_2_2 : mr 2 2 = 18 := by decide +kernel
theorem zk_18 : mk 18 = (100, 15) := by decide +kernel
theorem zlt_10 : 10 < nC := by decide +kernel
theorem zfl_1_38 : fl 1 38 = some (1, 2) := by decide +kernel
theorem zfl_1_15 : fl 1 15 = some (1, 4) := by decide +kernel
theorem zft_1_4 : ft 1 4 = 2 := by decide +kernel
theorem zmr_10_4 : mr 10 4 = 46 := by decide +kernel
theorem zk_46 : mk 46 = (100, 50) := by decide +kernel
theorem zfl_1_45 : fl 1 45 = some (1, 1) := by decide +kernel
theorem zfl_5_31 : fl 5 31 = some (5, 4) := by decide +kernel
theorem zfl_1_42 : fl 1 42 = some (1, 3) := by decide +kernel
theorem zfl_1_23 : fl 1 23 = some (1, 6) := by decide +kernel
theorem zft_1_6 : ft 1 6 = 2 := by decide +kernel
theorem zmr_10_6 : mr 10 6 = 48 := by decide +kernel
theorem zk_48 : mk 48 = (100, 12) := by decide +kernel
theorem zfl_1_26 : fl 1 26 = some (1, 7) := by decide +kernel
theorem zft_1_7 : ft 1 7 = 2 := by decide +kernel
theorem zmr_10_7 : mr 10 7 = 49 := by decide +kernel
theorem zk_49 : mk 49 = (102, 12) := by decide +kernel
theorem zo_162 : mO 162 = 11 := by decide +kernel
theorem zr_162 : mR 162 = some .int := by decide +kernel
theorem zr_163 : mR 163 = some .boolean := by decide +kernel
theorem zvl_11_419 : vl 11 419 = some (163, 1) := by decide +kernel
theorem zl_163 : mL 163 = 3 := by decide +kernel
theorem zo_163 : mO 163 = 1 := by decide +kernel
theorem zo_165 : mO 165 = 11 := by decide +kernel
theorem zb_20 : toB 20 = 20 := by decide +kernel
theorem zsl_11_429 : sl 11 429 = none := by decide +kernel
theorem zml_11_429 : ml 11 429 = some 1 := by decide +kernel
theorem zna_11_429 : ¬ (11, 429) ∈ aL := by decide +kernel
theorem zfl_12_128 : fl 12 128 = some (12, 11) := by decide +kernel
theorem zft_12_11 : ft 12 11 = 0 := by decide +kernel
theorem zr_213 : mR 213 = none := by decide +kernel
theorem zvl_12_283 : vl 12 283 = some (213, 0) := by decide +kernel
theorem zl_213 : mL 213 = 3 := by decide +kernel
theorem zo_213 : mO 213 = 12 := by decide +kernel
theorem zfl_12_9 : fl 12 9 = some (12, 1) := by decide +kernel
theorem zft_12_1 : ft 12 1 = 2 := by decide +kernel
theorem zmr_97_1 : mr 97 1 = 98 := by decide +kernel
theorem zr_199 : mR 199 = none := by decide +kernel
theorem zvl_12_280 : vl 12 280 = some (199, 3) := by decide +kernel
theorem zl_199 : mL 199 = 4 := by decide +kernel
theorem zo_199 : mO 199 = 12 := by decide +kernel
theorem zr_185 : mR 185 = none := by decide +kernel
theorem zvl_12_207 : vl 12 207 = some (185, 3) := by decide +kernel
theorem zl_185 : mL 185 = 4 := by decide +kernel
theorem zo_185 : mO 185 = 12 := by decide +kernel
theorem zfl_12_245 : fl 12 245 = some (12, 28) := by decide +kernel
theorem zft_12_28 : ft 12 28 = 0 := by decide +kernel
theorem zfl_12_248 : fl 12 248 = some (12, 29) := by decide +kernel
theorem zft_12_29 : ft 12 29 = 0 := by decide +kernel
theorem zfl_12_242 : fl 12 242 = some (12, 31) := by decide +kernel
theorem zft_12_31 : ft 12 31 = 5 := by decide +kernel
theorem zvl_12_292 : vl 12 292 = some (182, 1) := by decide +kernel
theorem zl_182 : mL 182 = 2 := by decide +kernel
theorem zr_221 : mR 221 = some .int := by decide +kernel
theorem zlt_110 : 110 < nC := by decide +kernel
theorem zcl_18_265 : cl_ 18 265 = some 1431655765 := by decide +kernel
theorem zo_76 : mO 76 = 18 := by decide +kernel
theorem zcl_18_266 : cl_ 18 266 = some 858993459 := by decide +kernel
theorem zcl_18_267 : cl_ 18 267 = some 252645135 := by decide +kernel
theorem zsl_12_318 : sl 12 318 = none := by decide +kernel
theorem zml_12_318 : ml 12 318 = some 1 := by decide +kernel
theorem zna_12_318 : ¬ (12, 318) ∈ aL := by decide +kernel
theorem zr_192 : mR 192 = some .boolean := by decide +kernel
theorem zsl_12_229 : sl 12 229 = some (192, 2) := by decide +kernel
theorem zl_192 : mL 192 = 2 := by decide +kernel
theorem zr_247 : mR 247 = none := by decide +kernel
theorem zvl_12_402 : vl 12 402 = some (247, 1) := by decide +kernel
theorem zl_247 : mL 247 = 3 := by decide +kernel
theorem zo_247 : mO 247 = 12 := by decide +kernel
theorem zr_249 : mR 249 = some .int := by decide +kernel
theorem zvl_12_414 : vl 12 414 = some (249, 1) := by decide +kernel
theorem zl_249 : mL 249 = 2 := by decide +kernel
theorem zo_249 : mO 249 = 12 := by decide +kernel
theorem zs_277 : (Int16.ofInt 277).toInt32.toInt = 277 := by decide +kernel
theorem zfl_12_71 : fl 12 71 = some (12, 36) := by decide +kernel
theorem zft_12_36 : ft 12 36 = 2 := by decide +kernel
theorem zmr_97_36 : mr 97 36 = 112 := by decide +kernel
theorem zk_112 : mk 112 = (100, 11080) := by decide +kernel
theorem zr_257 : mR 257 = some .boolean := by decide +kernel
theorem zvl_12_429 : vl 12 429 = some (257, 2) := by decide +kernel
theorem zl_257 : mL 257 = 5 := by decide +kernel
theorem zo_257 : mO 257 = 12 := by decide +kernel
theorem zr_232 : mR 232 = some .int := by decide +kernel
theorem zvl_12_329 : vl 12 329 = some (232, 7) := by decide +kernel
theorem zl_232 : mL 232 = 9 := by decide +kernel
theorem zo_232 : mO 232 = 12 := by decide +kernel
theorem zr_236 : mR 236 = some .int := by decide +kernel
theorem zvl_12_336 : vl 12 336 = some (236, 1) := by decide +kernel
theorem zl_236 : mL 236 = 4 := by decide +kernel
theorem zo_236 : mO 236 = 12 := by decide +kernel
theorem zr_234 : mR 234 = some .int := by decide +kernel
theorem zvl_12_326 : vl 12 326 = some (234, 1) := by decide +kernel
theorem zl_234 : mL 234 = 2 := by decide +kernel
theorem zo_234 : mO 234 = 12 := by decide +kernel
theorem zsl_12_333 : sl 12 333 = none := by decide +kernel
theorem zml_12_333 : ml 12 333 = some 2 := by decide +kernel
theorem zna_12_333 : ¬ (12, 333) ∈ aL := by decide +kernel
theorem zfl_12_74 : fl 12 74 = some (12, 39) := by decide +kernel
theorem zft_12_39 : ft 12 39 = 2 := by decide +kernel
theorem zmr_97_39 : mr 97 39 = 113 := by decide +kernel
theorem zk_113 : mk 113 = (100, 320) := by decide +kernel
theorem zfl_12_450 : fl 12 450 = some (12, 40) := by decide +kernel
theorem zft_12_40 : ft 12 40 = 0 := by decide +kernel
theorem zr_268 : mR 268 = none := by decide +kernel
theorem zvl_12_459 : vl 12 459 = some (268, 7) := by decide +kernel
theorem zl_268 : mL 268 = 9 := by decide +kernel
theorem zo_268 : mO 268 = 12 := by decide +kernel
theorem zll_12_467 : ll 12 467 = some 1000000000 := by decide +kernel
theorem zfl_12_77 : fl 12 77 = some (12, 43) := by decide +kernel
theorem zft_12_43 : ft 12 43 = 2 := by decide +kernel
theorem zmr_97_43 : mr 97 43 = 114 := by decide +kernel
theorem zk_114 : mk 114 = (100, 5) := by decide +kernel
theorem zr_279 : mR 279 = some .boolean := by decide +kernel
theorem zvl_12_491 : vl 12 491 = some (279, 1) := by decide +kernel
theorem zl_279 : mL 279 = 3 := by decide +kernel
theorem zo_279 : mO 279 = 12 := by decide +kernel
theorem zr_296 : mR 296 = some .int := by decide +kernel
theorem zvl_12_514 : vl 12 514 = some (296, 1) := by decide +kernel
theorem zl_296 : mL 296 = 4 := by decide +kernel
theorem zo_296 : mO 296 = 12 := by decide +kernel
theorem zfl_12_49 : fl 12 49 = some (12, 22) := by decide +kernel
theorem zft_12_22 : ft 12 22 = 2 := by decide +kernel
theorem zmr_97_22 : mr 97 22 = 106 := by decide +kernel
theorem zk_106 : mk 106 = (100, 15) := by decide +kernel
theorem zlt_119 : 119 < nC := by decide +kernel
theorem zk_119 : mk 119 = (100, 277) := by decide +kernel
theorem zs_255 : (Int16.ofInt 255).toInt32.toInt = 255 := by decide +kernel
theorem zlt_1 : 1 < nC := by decide +kernel
theorem zfl_10_15 : fl 10 15 = some (10, 1) := by decide +kernel
theorem zfl_10_11 : fl 10 11 = some (10, 0) := by decide +kernel
theorem zft_10_0 : ft 10 0 = 2 := by decide +kernel
theorem zmr_1_0 : mr 1 0 = 15 := by decide +kernel
theorem zk_15 : mk 15 = (101, 240) := by decide +kernel
theorem zfl_6_32 : fl 6 32 = some (6, 2) := by decide +kernel
theorem zft_6_2 : ft 6 2 = 5 := by decide +kernel
theorem zfl_6_12 : fl 6 12 = some (6, 0) := by decide +kernel
theorem zfl_6_36 : fl 6 36 = some (5, 3) := by decide +kernel
theorem zk1_4 : (mk 4).1 = 5 := by decide +kernel
theorem zfl_6_39 : fl 6 39 = some (5, 4) := by decide +kernel
theorem zgl_6_42 : gl 6 42 = some (1, 121) := by decide +kernel
theorem zfl_6_46 : fl 6 46 = some (5, 0) := by decide +kernel
theorem zmr_4_0 : mr 4 0 = 19 := by decide +kernel
theorem zsl_6_49 : sl 6 49 = none := by decide +kernel
theorem zal_6_49 : (6, 49) ∈ aL := by decide +kernel
theorem zk_121 : mk 121 = (110, 10) := by decide +kernel
theorem zk_19 : mk 19 = (100, 4) := by decide +kernel
theorem zr_23 : mR 23 = some .boolean := by decide +kernel
theorem zvl_3_28 : vl 3 28 = some (23, 0) := by decide +kernel
theorem zl_23 : mL 23 = 4 := by decide +kernel
theorem zo_23 : mO 23 = 3 := by decide +kernel
theorem zr_8 : mR 8 = some .int := by decide +kernel
theorem zvl_3_32 : vl 3 32 = some (8, 0) := by decide +kernel
theorem zl_8 : mL 8 = 1 := by decide +kernel
theorem zo_8 : mO 8 = 10 := by decide +kernel
theorem zb_59 : toB 59 = 59 := by decide +kernel
theorem zr_21 : mR 21 = some .boolean := by decide +kernel
theorem zvl_3_36 : vl 3 36 = some (21, 1) := by decide +kernel
theorem zl_21 : mL 21 = 2 := by decide +kernel
theorem zo_21 : mO 21 = 10 := by decide +kernel
theorem zr_39 : mR 39 = some .boolean := by decide +kernel
theorem zvl_8_49 : vl 8 49 = some (39, 1) := by decide +kernel
theorem zl_39 : mL 39 = 2 := by decide +kernel
theorem zo_39 : mO 39 = 8 := by decide +kernel
theorem zfl_8_41 : fl 8 41 = some (8, 4) := by decide +kernel
theorem zft_8_4 : ft 8 4 = 0 := by decide +kernel
theorem zvl_8_53 : vl 8 53 = some (8, 0) := by decide +kernel
theorem zvl_8_57 : vl 8 57 = some (21, 1) := by decide +kernel
theorem zr_58 : mR 58 = some .boolean := by decide +kernel
theorem zvl_11_137 : vl 11 137 = some (58, 0) := by decide +kernel
theorem zl_58 : mL 58 = 1 := by decide +kernel
theorem zo_58 : mO 58 = 8 := by decide +kernel
theorem zr_59 : mR 59 = some .int := by decide +kernel
theorem zvl_11_138 : vl 11 138 = some (59, 0) := by decide +kernel
theorem zl_59 : mL 59 = 1 := by decide +kernel
theorem zo_59 : mO 59 = 8 := by decide +kernel
theorem zlt_6 : 6 < nC := by decide +kernel
theorem zfl_4_32 : fl 4 32 = some (4, 1) := by decide +kernel
theorem zvl_4_35 : vl 4 35 = some (56, 0) := by decide +kernel
theorem zlt_22 : 22 < nC := by decide +kernel
theorem zfl_4_23 : fl 4 23 = some (4, 3) := by decide +kernel
theorem zft_4_3 : ft 4 3 = 2 := by decide +kernel
theorem zmr_6_3 : mr 6 3 = 24 := by decide +kernel
theorem zk_24 : mk 24 = (104, 4) := by decide +kernel
theorem zmr_24_0 : mr 24 0 = 25 := by decide +kernel
theorem zsl_4_39 : sl 4 39 = none := by decide +kernel
theorem zal_4_39 : (4, 39) ∈ aL := by decide +kernel
theorem zk_22 : mk 22 = (100, 240) := by decide +kernel
theorem zgrid_25 : ∀ j, j < 4 → mk (25 + j) = (100, 240) := by decide +kernel
theorem zfl_4_26 : fl 4 26 = some (4, 4) := by decide +kernel
theorem zft_4_4 : ft 4 4 = 2 := by decide +kernel
theorem zmr_6_4 : mr 6 4 = 29 := by decide +kernel
theorem zk_29 : mk 29 = (100, 4) := by decide +kernel
theorem zlt_4 : 4 < nC := by decide +kernel
theorem zsl_5_21 : sl 5 21 = none := by decide +kernel
theorem zal_5_21 : (5, 21) ∈ aL := by decide +kernel
theorem zmr_4_1 : mr 4 1 = 20 := by decide +kernel
theorem zk_20 : mk 20 = (100, 24) := by decide +kernel
theorem zmr_4_2 : mr 4 2 = 21 := by decide +kernel
theorem zk_21 : mk 21 = (100, 15) := by decide +kernel
theorem zsl_9_22 : sl 9 22 = some (48, 2) := by decide +kernel
theorem zr_49 : mR 49 = some .int := by decide +kernel
theorem zvl_9_28 : vl 9 28 = some (49, 0) := by decide +kernel
theorem zl_49 : mL 49 = 1 := by decide +kernel
theorem zo_49 : mO 49 = 5 := by decide +kernel
theorem zr_50 : mR 50 = some .int := by decide +kernel
theorem zvl_9_32 : vl 9 32 = some (50, 0) := by decide +kernel
theorem zl_50 : mL 50 = 1 := by decide +kernel
theorem zo_50 : mO 50 = 5 := by decide +kernel
theorem zr_51 : mR 51 = some .int := by decide +kernel
theorem zvl_9_35 : vl 9 35 = some (51, 0) := by decide +kernel
theorem zl_51 : mL 51 = 1 := by decide +kernel
theorem zo_51 : mO 51 = 5 := by decide +kernel
theorem zsl_0_28 : sl 0 28 = some (48, 2) := by decide +kernel
theorem zr_103 : mR 103 = some .long := by decide +kernel
theorem zsl_11_293 : sl 11 293 = some (103, 1) := by decide +kernel
theorem zl_103 : mL 103 = 2 := by decide +kernel
theorem zr_104 : mR 104 = some .int := by decide +kernel
theorem zsl_11_296 : sl 11 296 = some (104, 2) := by decide +kernel
theorem zl_104 : mL 104 = 3 := by decide +kernel
theorem zr_118 : mR 118 = some .boolean := by decide +kernel
theorem zvl_11_322 : vl 11 322 = some (118, 3) := by decide +kernel
theorem zl_118 : mL 118 = 6 := by decide +kernel
theorem zo_118 : mO 118 = 11 := by decide +kernel
theorem zvl_0_34 : vl 0 34 = some (82, 1) := by decide +kernel
theorem zvl_0_38 : vl 0 38 = some (64, 1) := by decide +kernel
theorem zfl_0_47 : fl 0 47 = some (4, 0) := by decide +kernel
theorem zft_4_0 : ft 4 0 = 2 := by decide +kernel
theorem zmr_6_0 : mr 6 0 = 23 := by decide +kernel
theorem zk_23 : mk 23 = (100, 6) := by decide +kernel
theorem zvl_0_50 : vl 0 50 = some (83, 1) := by decide +kernel
theorem zr_84 : mR 84 = some .int := by decide +kernel
theorem zvl_0_53 : vl 0 53 = some (84, 0) := by decide +kernel
theorem zl_84 : mL 84 = 6 := by decide +kernel
theorem zo_84 : mO 84 = 4 := by decide +kernel
theorem zsl_0_57 : sl 0 57 = none := by decide +kernel
theorem zml_0_57 : ml 0 57 = some 1 := by decide +kernel
theorem zna_0_57 : ¬ (0, 57) ∈ aL := by decide +kernel
theorem zsl_0_63 : sl 0 63 = none := by decide +kernel
theorem zml_0_63 : ml 0 63 = some 0 := by decide +kernel
theorem zna_0_63 : ¬ (0, 63) ∈ aL := by decide +kernel
theorem zvl_5_34 : vl 5 34 = some (18, 1) := by decide +kernel
theorem zlt_40 : 40 < nC := by decide +kernel
theorem zfl_7_29 : fl 7 29 = some (7, 5) := by decide +kernel
theorem zft_7_5 : ft 7 5 = 2 := by decide +kernel
theorem zmr_9_5 : mr 9 5 = 2 := by decide +kernel
theorem zfl_7_43 : fl 7 43 = some (5, 3) := by decide +kernel
theorem zr_133 : mR 133 = some .int := by decide +kernel
theorem zvl_7_68 : vl 7 68 = some (133, 4) := by decide +kernel
theorem zl_133 : mL 133 = 9 := by decide +kernel
theorem zo_133 : mO 133 = 7 := by decide +kernel
theorem zll_11_365 : ll 11 365 = some 10 := by decide +kernel
theorem zfl_7_23 : fl 7 23 = some (7, 3) := by decide +kernel
theorem zft_7_3 : ft 7 3 = 2 := by decide +kernel
theorem zmr_9_3 : mr 9 3 = 43 := by decide +kernel
theorem zk_43 : mk 43 = (100, 8) := by decide +kernel
theorem zr_151 : mR 151 = some .boolean := by decide +kernel
theorem zvl_1_48 : vl 1 48 = some (151, 1) := by decide +kernel
theorem zl_151 : mL 151 = 7 := by decide +kernel
theorem zo_151 : mO 151 = 1 := by decide +kernel
theorem zfl_1_11 : fl 1 11 = some (1, 0) := by decide +kernel
theorem zfl_1_30 : fl 1 30 = some (1, 8) := by decide +kernel
theorem zft_1_8 : ft 1 8 = 2 := by decide +kernel
theorem zmr_10_8 : mr 10 8 = 2 := by decide +kernel
theorem zfl_1_88 : fl 1 88 = some (5, 3) := by decide +kernel
theorem zr_161 : mR 161 = some .long := by decide +kernel
theorem zvl_1_91 : vl 1 91 = some (161, 1) := by decide +kernel
theorem zl_161 : mL 161 = 6 := by decide +kernel
theorem zo_161 : mO 161 = 1 := by decide +kernel
theorem zll_1_95 : ll 1 95 = some 1000000 := by decide +kernel
theorem zsl_5_48 : sl 5 48 = none := by decide +kernel
theorem zml_5_48 : ml 5 48 = some 5 := by decide +kernel
theorem zna_5_48 : ¬ (5, 48) ∈ aL := by decide +kernel
theorem zvl_5_45 : vl 5 45 = some (64, 1) := by decide +kernel
theorem zk_98 : mk 98 = (101, 240) := by decide +kernel
theorem zlt_98 : 98 < nC := by decide +kernel
theorem zb_121 : toB 121 = 121 := by decide +kernel
theorem zfl_12_201 : fl 12 201 = some (12, 13) := by decide +kernel
theorem zft_12_13 : ft 12 13 = 0 := by decide +kernel
theorem zfl_12_131 : fl 12 131 = some (12, 12) := by decide +kernel
theorem zft_12_12 : ft 12 12 = 0 := by decide +kernel
theorem zfl_12_197 : fl 12 197 = some (12, 17) := by decide +kernel
theorem zft_12_17 : ft 12 17 = 5 := by decide +kernel
theorem zfl_12_204 : fl 12 204 = some (12, 14) := by decide +kernel
theorem zft_12_14 : ft 12 14 = 0 := by decide +kernel
theorem zr_200 : mR 200 = none := by decide +kernel
theorem zvl_12_211 : vl 12 211 = some (200, 0) := by decide +kernel
theorem zl_200 : mL 200 = 5 := by decide +kernel
theorem zo_200 : mO 200 = 12 := by decide +kernel
theorem zfl_12_23 : fl 12 23 = some (12, 5) := by decide +kernel
theorem zft_12_5 : ft 12 5 = 3 := by decide +kernel
theorem zk1_98 : (mk 98).1 = 101 := by decide +kernel
theorem zfl_12_125 : fl 12 125 = some (12, 8) := by decide +kernel
theorem zft_12_8 : ft 12 8 = 0 := by decide +kernel
theorem zfl_12_122 : fl 12 122 = some (12, 9) := by decide +kernel
theorem zft_12_9 : ft 12 9 = 0 := by decide +kernel
theorem zfl_12_119 : fl 12 119 = some (12, 10) := by decide +kernel
theorem zft_12_10 : ft 12 10 = 0 := by decide +kernel
theorem zfl_12_40 : fl 12 40 = some (12, 19) := by decide +kernel
theorem zft_12_19 : ft 12 19 = 2 := by decide +kernel
theorem zmr_97_19 : mr 97 19 = 103 := by decide +kernel
theorem zb_115 : toB 115 = 115 := by decide +kernel
theorem zr_186 : mR 186 = some .int := by decide +kernel
theorem zsl_12_221 : sl 12 221 = some (186, 2) := by decide +kernel
theorem zl_186 : mL 186 = 2 := by decide +kernel
theorem zk_103 : mk 103 = (100, 4) := by decide +kernel
theorem zb_64 : toB 64 = 64 := by decide +kernel
theorem zs_256 : (Int16.ofInt 256).toInt32.toInt = 256 := by decide +kernel
theorem zfl_12_16 : fl 12 16 = some (12, 3) := by decide +kernel
theorem zft_12_3 : ft 12 3 = 2 := by decide +kernel
theorem zmr_97_3 : mr 97 3 = 100 := by decide +kernel
theorem zk_100 : mk 100 = (100, 4) := by decide +kernel
theorem zfl_12_13 : fl 12 13 = some (12, 2) := by decide +kernel
theorem zft_12_2 : ft 12 2 = 2 := by decide +kernel
theorem zmr_97_2 : mr 97 2 = 99 := by decide +kernel
theorem zk_99 : mk 99 = (101, 960) := by decide +kernel
theorem zs_10803 : (Int16.ofInt 10803).toInt32.toInt = 10803 := by decide +kernel
theorem zs_236 : (Int16.ofInt 236).toInt32.toInt = 236 := by decide +kernel
theorem zll_12_410 : ll 12 410 = some 6364136223846793005 := by decide +kernel
theorem zll_12_412 : ll 12 412 = some 1442695040888963407 := by decide +kernel
theorem zr_250 : mR 250 = some .int := by decide +kernel
theorem zvl_12_417 : vl 12 417 = some (250, 2) := by decide +kernel
theorem zl_250 : mL 250 = 5 := by decide +kernel
theorem zo_250 : mO 250 = 12 := by decide +kernel
theorem zlt_111 : 111 < nC := by decide +kernel
theorem zk_111 : mk 111 = (100, 277) := by decide +kernel
theorem zr_258 : mR 258 = some .int := by decide +kernel
theorem zvl_12_432 : vl 12 432 = some (258, 1) := by decide +kernel
theorem zl_258 : mL 258 = 2 := by decide +kernel
theorem zo_258 : mO 258 = 12 := by decide +kernel
theorem zr_259 : mR 259 = none := by decide +kernel
theorem zvl_12_435 : vl 12 435 = some (259, 2) := by decide +kernel
theorem zl_259 : mL 259 = 6 := by decide +kernel
theorem zo_259 : mO 259 = 12 := by decide +kernel
theorem zr_233 : mR 233 = some .int := by decide +kernel
theorem zvl_12_322 : vl 12 322 = some (233, 5) := by decide +kernel
theorem zl_233 : mL 233 = 7 := by decide +kernel
theorem zo_233 : mO 233 = 12 := by decide +kernel
theorem zll_12_469 : ll 12 469 = some 10 := by decide +kernel
theorem zll_12_143 : ll 12 143 = some 1000000 := by decide +kernel
theorem zr_292 : mR 292 = some .long := by decide +kernel
theorem zvl_12_507 : vl 12 507 = some (292, 1) := by decide +kernel
theorem zl_292 : mL 292 = 6 := by decide +kernel
theorem zo_292 : mO 292 = 12 := by decide +kernel
theorem zr_293 : mR 293 = some .int := by decide +kernel
theorem zsl_12_521 : sl 12 521 = none := by decide +kernel
theorem zml_12_521 : ml 12 521 = some 5 := by decide +kernel
theorem zna_12_521 : ¬ (12, 521) ∈ aL := by decide +kernel
theorem zr_7 : mR 7 = some .boolean := by decide +kernel
theorem zvl_6_55 : vl 6 55 = some (7, 0) := by decide +kernel
theorem zl_7 : mL 7 = 3 := by decide +kernel
theorem zo_7 : mO 7 = 6 := by decide +kernel
theorem zvl_6_58 : vl 6 58 = some (8, 0) := by decide +kernel
theorem zvl_6_65 : vl 6 65 = some (21, 1) := by decide +kernel
theorem zr_17 : mR 17 = some .boolean := by decide +kernel
theorem zvl_6_62 : vl 6 62 = some (17, 0) := by decide +kernel
theorem zl_17 : mL 17 = 3 := by decide +kernel
theorem zo_17 : mO 17 = 5 := by decide +kernel
theorem zb_58 : toB 58 = 58 := by decide +kernel
theorem zfl_10_19 : fl 10 19 = some (10, 2) := by decide +kernel
theorem zvl_10_22 : vl 10 22 = some (8, 0) := by decide +kernel
theorem zb_104 : toB 104 = 104 := by decide +kernel
theorem zb_119 : toB 119 = 119 := by decide +kernel
theorem zb_110 : toB 110 = 110 := by decide +kernel
theorem zr_40 : mR 40 = some .boolean := by decide +kernel
theorem zvl_8_61 : vl 8 61 = some (40, 3) := by decide +kernel
theorem zl_40 : mL 40 = 4 := by decide +kernel
theorem zo_40 : mO 40 = 8 := by decide +kernel
theorem zr_41 : mR 41 = some .boolean := by decide +kernel
theorem zvl_8_68 : vl 8 68 = some (41, 2) := by decide +kernel
theorem zl_41 : mL 41 = 3 := by decide +kernel
theorem zo_41 : mO 41 = 8 := by decide +kernel
theorem zr_43 : mR 43 = some .boolean := by decide +kernel
theorem zvl_8_65 : vl 8 65 = some (43, 1) := by decide +kernel
theorem zl_43 : mL 43 = 4 := by decide +kernel
theorem zo_43 : mO 43 = 8 := by decide +kernel
theorem zvl_8_31 : vl 8 31 = some (58, 0) := by decide +kernel
theorem zfl_8_20 : fl 8 20 = some (8, 3) := by decide +kernel
theorem zft_8_3 : ft 8 3 = 2 := by decide +kernel
theorem zmr_7_3 : mr 7 3 = 37 := by decide +kernel
theorem zk_37 : mk 37 = (100, 64) := by decide +kernel
theorem zsl_8_35 : sl 8 35 = none := by decide +kernel
theorem zal_8_35 : (8, 35) ∈ aL := by decide +kernel
theorem zfl_8_11 : fl 8 11 = some (8, 0) := by decide +kernel
theorem zlt_91 : 91 < nC := by decide +kernel
theorem zfl_9_38 : fl 9 38 = some (5, 3) := by decide +kernel
theorem zr_52 : mR 52 = some .int := by decide +kernel
theorem zvl_9_42 : vl 9 42 = some (52, 1) := by decide +kernel
theorem zl_52 : mL 52 = 2 := by decide +kernel
theorem zo_52 : mO 52 = 5 := by decide +kernel
theorem zlt_39 : 39 < nC := by decide +kernel
theorem zsl_9_58 : sl 9 58 = none := by decide +kernel
theorem zml_9_58 : ml 9 58 = some 0 := by decide +kernel
theorem zna_9_58 : ¬ (9, 58) ∈ aL := by decide +kernel
theorem zll_11_304 : ll 11 304 = some 6364136223846793005 := by decide +kernel
theorem zo_103 : mO 103 = 11 := by decide +kernel
theorem zll_11_306 : ll 11 306 = some 1442695040888963407 := by decide +kernel
theorem zr_105 : mR 105 = some .int := by decide +kernel
theorem zvl_11_300 : vl 11 300 = some (105, 2) := by decide +kernel
theorem zl_105 : mL 105 = 6 := by decide +kernel
theorem zo_105 : mO 105 = 11 := by decide +kernel
theorem zr_119 : mR 119 = none := by decide +kernel
theorem zvl_11_325 : vl 11 325 = some (119, 3) := by decide +kernel
theorem zl_119 : mL 119 = 6 := by decide +kernel
theorem zo_119 : mO 119 = 11 := by decide +kernel
theorem zfl_4_15 : fl 4 15 = some (4, 2) := by decide +kernel
theorem zfl_7_71 : fl 7 71 = some (5, 4) := by decide +kernel
theorem zr_155 : mR 155 = some .int := by decide +kernel
theorem zvl_1_72 : vl 1 72 = some (155, 4) := by decide +kernel
theorem zl_155 : mL 155 = 8 := by decide +kernel
theorem zo_155 : mO 155 = 1 := by decide +kernel
theorem zr_188 : mR 188 = some .int := by decide +kernel
theorem zvl_12_138 : vl 12 138 = some (188, 0) := by decide +kernel
theorem zl_188 : mL 188 = 1 := by decide +kernel
theorem zo_188 : mO 188 = 12 := by decide +kernel
theorem zr_189 : mR 189 = some .boolean := by decide +kernel
theorem zvl_12_134 : vl 12 134 = some (189, 0) := by decide +kernel
theorem zl_189 : mL 189 = 1 := by decide +kernel
theorem zo_189 : mO 189 = 12 := by decide +kernel
theorem zr_214 : mR 214 = none := by decide +kernel
theorem zvl_12_272 : vl 12 272 = some (214, 1) := by decide +kernel
theorem zl_214 : mL 214 = 4 := by decide +kernel
theorem zo_214 : mO 214 = 12 := by decide +kernel
theorem zcl_12_26 : cl_ 12 26 = none := by decide +kernel
theorem zrl_12_26 : rl 12 26 = some 126 := by decide +kernel
theorem zr_201 : mR 201 = some .boolean := by decide +kernel
theorem zsl_12_154 : sl 12 154 = some (201, 2) := by decide +kernel
theorem zl_201 : mL 201 = 3 := by decide +kernel
theorem zr_202 : mR 202 = some .boolean := by decide +kernel
theorem zvl_12_164 : vl 12 164 = some (202, 1) := by decide +kernel
theorem zl_202 : mL 202 = 2 := by decide +kernel
theorem zo_202 : mO 202 = 12 := by decide +kernel
theorem zr_203 : mR 203 = some .boolean := by decide +kernel
theorem zvl_12_187 : vl 12 187 = some (203, 2) := by decide +kernel
theorem zl_203 : mL 203 = 5 := by decide +kernel
theorem zo_203 : mO 203 = 12 := by decide +kernel
theorem zr_206 : mR 206 = some .int := by decide +kernel
theorem zvl_12_161 : vl 12 161 = some (206, 0) := by decide +kernel
theorem zl_206 : mL 206 = 5 := by decide +kernel
theorem zo_206 : mO 206 = 12 := by decide +kernel
theorem zr_211 : mR 211 = some .boolean := by decide +kernel
theorem zsl_12_181 : sl 12 181 = some (211, 1) := by decide +kernel
theorem zl_211 : mL 211 = 1 := by decide +kernel
theorem zr_187 : mR 187 = none := by decide +kernel
theorem zvl_12_261 : vl 12 261 = some (187, 0) := by decide +kernel
theorem zl_187 : mL 187 = 3 := by decide +kernel
theorem zo_187 : mO 187 = 12 := by decide +kernel
theorem zb_102 : toB 102 = 102 := by decide +kernel
theorem zfl_12_46 : fl 12 46 = some (12, 21) := by decide +kernel
theorem zft_12_21 : ft 12 21 = 2 := by decide +kernel
theorem zmr_97_21 : mr 97 21 = 105 := by decide +kernel
theorem zk_105 : mk 105 = (100, 24) := by decide +kernel
theorem zsl_12_320 : sl 12 320 = none := by decide +kernel
theorem zml_12_320 : ml 12 320 = some 0 := by decide +kernel
theorem zna_12_320 : ¬ (12, 320) ∈ aL := by decide +kernel
theorem zfl_12_20 : fl 12 20 = some (12, 4) := by decide +kernel
theorem zft_12_4 : ft 12 4 = 2 := by decide +kernel
theorem zmr_97_4 : mr 97 4 = 101 := by decide +kernel
theorem zb_112 : toB 112 = 112 := by decide +kernel
theorem zk_101 : mk 101 = (100, 128) := by decide +kernel
theorem zb_109 : toB 109 = 109 := by decide +kernel
theorem zr_275 : mR 275 = some .boolean := by decide +kernel
theorem zvl_12_474 : vl 12 474 = some (275, 5) := by decide +kernel
theorem zl_275 : mL 275 = 8 := by decide +kernel
theorem zo_275 : mO 275 = 12 := by decide +kernel
theorem zr_9 : mR 9 = some .boolean := by decide +kernel
theorem zvl_6_69 : vl 6 69 = some (9, 4) := by decide +kernel
theorem zl_9 : mL 9 = 9 := by decide +kernel
theorem zo_9 : mO 9 = 6 := by decide +kernel
theorem zr_35 : mR 35 = some .int := by decide +kernel
theorem zsl_3_44 : sl 3 44 = some (35, 1) := by decide +kernel
theorem zl_35 : mL 35 = 1 := by decide +kernel
theorem zb_13 : toB 13 = 13 := by decide +kernel
theorem zr_33 : mR 33 = none := by decide +kernel
theorem zvl_3_50 : vl 3 50 = some (33, 2) := by decide +kernel
theorem zl_33 : mL 33 = 3 := by decide +kernel
theorem zo_33 : mO 33 = 3 := by decide +kernel
theorem zr_24 : mR 24 = some .boolean := by decide +kernel
theorem zvl_3_40 : vl 3 40 = some (24, 1) := by decide +kernel
theorem zl_24 : mL 24 = 6 := by decide +kernel
theorem zo_24 : mO 24 = 3 := by decide +kernel
theorem zr_42 : mR 42 = some .int := by decide +kernel
theorem zvl_8_72 : vl 8 72 = some (42, 1) := by decide +kernel
theorem zl_42 : mL 42 = 3 := by decide +kernel
theorem zo_42 : mO 42 = 10 := by decide +kernel
theorem zfl_9_46 : fl 9 46 = some (5, 4) := by decide +kernel
theorem zr_19 : mR 19 = some .int := by decide +kernel
theorem zvl_9_49 : vl 9 49 = some (19, 1) := by decide +kernel
theorem zl_19 : mL 19 = 2 := by decide +kernel
theorem zo_19 : mO 19 = 5 := by decide +kernel
theorem zfl_4_9 : fl 4 9 = some (4, 0) := by decide +kernel
theorem zfl_4_29 : fl 4 29 = some (4, 5) := by decide +kernel
theorem zft_4_5 : ft 4 5 = 2 := by decide +kernel
theorem zmr_6_5 : mr 6 5 = 30 := by decide +kernel
theorem zk_30 : mk 30 = (100, 64) := by decide +kernel
theorem zfl_7_33 : fl 7 33 = some (7, 6) := by decide +kernel
theorem zft_7_6 : ft 7 6 = 2 := by decide +kernel
theorem zmr_9_6 : mr 9 6 = 8 := by decide +kernel
theorem zvl_7_47 : vl 7 47 = some (125, 4) := by decide +kernel
theorem zr_152 : mR 152 = some .int := by decide +kernel
theorem zvl_1_52 : vl 1 52 = some (152, 5) := by decide +kernel
theorem zl_152 : mL 152 = 6 := by decide +kernel
theorem zo_152 : mO 152 = 1 := by decide +kernel
theorem zvl_1_56 : vl 1 56 = some (18, 1) := by decide +kernel
theorem zsl_1_62 : sl 1 62 = some (86, 3) := by decide +kernel
theorem zfl_1_20 : fl 1 20 = some (1, 5) := by decide +kernel
theorem zft_1_5 : ft 1 5 = 2 := by decide +kernel
theorem zmr_10_5 : mr 10 5 = 47 := by decide +kernel
theorem zsl_1_76 : sl 1 76 = some (48, 2) := by decide +kernel
theorem zcl_12_267 : cl_ 12 267 = none := by decide +kernel
theorem zrl_12_267 : rl 12 267 = some 130 := by decide +kernel
theorem zr_191 : mR 191 = some .int := by decide +kernel
theorem zsl_12_225 : sl 12 225 = some (191, 2) := by decide +kernel
theorem zl_191 : mL 191 = 3 := by decide +kernel
theorem zr_215 : mR 215 = some .int := by decide +kernel
theorem zvl_12_269 : vl 12 269 = some (215, 1) := by decide +kernel
theorem zl_215 : mL 215 = 3 := by decide +kernel
theorem zo_215 : mO 215 = 12 := by decide +kernel
theorem zr_204 : mR 204 = some .boolean := by decide +kernel
theorem zvl_12_194 : vl 12 194 = some (204, 2) := by decide +kernel
theorem zl_204 : mL 204 = 5 := by decide +kernel
theorem zo_204 : mO 204 = 12 := by decide +kernel
theorem zr_207 : mR 207 = some .int := by decide +kernel
theorem zvl_12_178 : vl 12 178 = some (207, 0) := by decide +kernel
theorem zl_207 : mL 207 = 5 := by decide +kernel
theorem zo_207 : mO 207 = 12 := by decide +kernel
theorem zb_61 : toB 61 = 61 := by decide +kernel
theorem zb_62 : toB 62 = 62 := by decide +kernel
theorem zr_198 : mR 198 = some .boolean := by decide +kernel
theorem zvl_12_264 : vl 12 264 = some (198, 0) := by decide +kernel
theorem zl_198 : mL 198 = 3 := by decide +kernel
theorem zo_198 : mO 198 = 12 := by decide +kernel
theorem zb_15 : toB 15 = 15 := by decide +kernel
theorem zfl_12_52 : fl 12 52 = some (12, 23) := by decide +kernel
theorem zft_12_23 : ft 12 23 = 2 := by decide +kernel
theorem zmr_97_23 : mr 97 23 = 107 := by decide +kernel
theorem zk_107 : mk 107 = (100, 15) := by decide +kernel
theorem zlt_99 : 99 < nC := by decide +kernel
theorem zr_276 : mR 276 = some .boolean := by decide +kernel
theorem zvl_12_478 : vl 12 478 = some (276, 3) := by decide +kernel
theorem zl_276 : mL 276 = 6 := by decide +kernel
theorem zo_276 : mO 276 = 12 := by decide +kernel
theorem zfl_12_83 : fl 12 83 = some (12, 45) := by decide +kernel
theorem zft_12_45 : ft 12 45 = 2 := by decide +kernel
theorem zmr_97_45 : mr 97 45 = 116 := by decide +kernel
theorem zk_116 : mk 116 = (100, 128) := by decide +kernel
theorem zr_283 : mR 283 = some .boolean := by decide +kernel
theorem zvl_12_494 : vl 12 494 = some (283, 2) := by decide +kernel
theorem zl_283 : mL 283 = 4 := by decide +kernel
theorem zo_283 : mO 283 = 12 := by decide +kernel
theorem zfl_6_73 : fl 6 73 = some (5, 1) := by decide +kernel
theorem zb_7 : toB 7 = 7 := by decide +kernel
theorem zlt_19 : 19 < nC := by decide +kernel
theorem zr_36 : mR 36 = some .boolean := by decide +kernel
theorem zvl_3_54 : vl 3 54 = some (36, 2) := by decide +kernel
theorem zl_36 : mL 36 = 6 := by decide +kernel
theorem zo_36 : mO 36 = 3 := by decide +kernel
theorem zfl_3_11 : fl 3 11 = some (3, 0) := by decide +kernel
theorem zr_25 : mR 25 = some .boolean := by decide +kernel
theorem zvl_3_61 : vl 3 61 = some (25, 1) := by decide +kernel
theorem zl_25 : mL 25 = 5 := by decide +kernel
theorem zo_25 : mO 25 = 3 := by decide +kernel
theorem zb_48 : toB 48 = 48 := by decide +kernel
theorem zsl_4_45 : sl 4 45 = none := by decide +kernel
theorem zml_4_45 : ml 4 45 = some 0 := by decide +kernel
theorem zna_4_45 : ¬ (4, 45) ∈ aL := by decide +kernel
theorem zvl_0_89 : vl 0 89 = some (87, 1) := by decide +kernel
theorem zr_134 : mR 134 = some .boolean := by decide +kernel
theorem zvl_7_74 : vl 7 74 = some (134, 5) := by decide +kernel
theorem zl_134 : mL 134 = 11 := by decide +kernel
theorem zo_134 : mO 134 = 7 := by decide +kernel
theorem zfl_1_34 : fl 1 34 = some (1, 9) := by decide +kernel
theorem zft_1_9 : ft 1 9 = 2 := by decide +kernel
theorem zmr_10_9 : mr 10 9 = 8 := by decide +kernel
theorem zsl_1_66 : sl 1 66 = some (80, 3) := by decide +kernel
theorem zvl_1_69 : vl 1 69 = some (81, 5) := by decide +kernel
theorem zlt_47 : 47 < nC := by decide +kernel
theorem zk_47 : mk 47 = (100, 61) := by decide +kernel
theorem zsl_1_82 : sl 1 82 = none := by decide +kernel
theorem zml_1_82 : ml 1 82 = some 0 := by decide +kernel
theorem zna_1_82 : ¬ (1, 82) ∈ aL := by decide +kernel
theorem zll_1_103 : ll 1 103 = some 7 := by decide +kernel
theorem zll_1_101 : ll 1 101 = some 2 := by decide +kernel
theorem zll_1_99 : ll 1 99 = some 3 := by decide +kernel
theorem zll_1_97 : ll 1 97 = some 8 := by decide +kernel
theorem zr_196 : mR 196 = some .boolean := by decide +kernel
theorem zvl_12_168 : vl 12 168 = some (196, 0) := by decide +kernel
theorem zl_196 : mL 196 = 1 := by decide +kernel
theorem zo_196 : mO 196 = 12 := by decide +kernel
theorem zlt_126 : 126 < nC := by decide +kernel
theorem zr_28 : mR 28 = some .int := by decide +kernel
theorem zo_201 : mO 201 = 12 := by decide +kernel
theorem zvl_12_99 : vl 12 99 = some (28, 0) := by decide +kernel
theorem zl_28 : mL 28 = 1 := by decide +kernel
theorem zk1_126 : (mk 126).1 = 13 := by decide +kernel
theorem zo_28 : mO 28 = 13 := by decide +kernel
theorem zr_11 : mR 11 = some .char := by decide +kernel
theorem zvl_12_105 : vl 12 105 = some (11, 1) := by decide +kernel
theorem zl_11 : mL 11 = 2 := by decide +kernel
theorem zo_11 : mO 11 = 13 := by decide +kernel
theorem zr_212 : mR 212 = some .boolean := by decide +kernel
theorem zvl_12_184 : vl 12 184 = some (212, 0) := by decide +kernel
theorem zl_212 : mL 212 = 3 := by decide +kernel
theorem zo_212 : mO 212 = 12 := by decide +kernel
theorem zr_205 : mR 205 = some .boolean := by decide +kernel
theorem zvl_12_191 : vl 12 191 = some (205, 2) := by decide +kernel
theorem zl_205 : mL 205 = 6 := by decide +kernel
theorem zo_205 : mO 205 = 12 := by decide +kernel
theorem zb_124 : toB 124 = 124 := by decide +kernel
theorem zr_208 : mR 208 = some .int := by decide +kernel
theorem zvl_12_171 : vl 12 171 = some (208, 0) := by decide +kernel
theorem zl_208 : mL 208 = 4 := by decide +kernel
theorem zo_208 : mO 208 = 12 := by decide +kernel
theorem zb_43 : toB 43 = 43 := by decide +kernel
theorem zb_45 : toB 45 = 45 := by decide +kernel
theorem zcl_12_259 : cl_ 12 259 = none := by decide +kernel
theorem zrl_12_259 : rl 12 259 = some 129 := by decide +kernel
theorem zr_190 : mR 190 = none := by decide +kernel
theorem zvl_12_253 : vl 12 253 = some (190, 4) := by decide +kernel
theorem zl_190 : mL 190 = 7 := by decide +kernel
theorem zo_190 : mO 190 = 12 := by decide +kernel
theorem zcl_12_257 : cl_ 12 257 = none := by decide +kernel
theorem zrl_12_257 : rl 12 257 = some 128 := by decide +kernel
theorem zcl_12_251 : cl_ 12 251 = none := by decide +kernel
theorem zrl_12_251 : rl 12 251 = some 127 := by decide +kernel
theorem zk1_99 : (mk 99).1 = 101 := by decide +kernel
theorem zfl_6_76 : fl 6 76 = some (5, 2) := by decide +kernel
theorem zlt_20 : 20 < nC := by decide +kernel
theorem zr_10 : mR 10 = some .int := by decide +kernel
theorem zsl_6_79 : sl 6 79 = some (10, 3) := by decide +kernel
theorem zl_10 : mL 10 = 4 := by decide +kernel
theorem zr_16 : mR 16 = some .int := by decide +kernel
theorem zvl_6_83 : vl 6 83 = some (16, 1) := by decide +kernel
theorem zl_16 : mL 16 = 4 := by decide +kernel
theorem zo_16 : mO 16 = 10 := by decide +kernel
theorem zgl_6_87 : gl 6 87 = some (1, 122) := by decide +kernel
theorem zk_122 : mk 122 = (110, 10) := by decide +kernel
theorem zgl_6_90 : gl 6 90 = some (1, 123) := by decide +kernel
theorem zk_123 : mk 123 = (110, 10) := by decide +kernel
theorem zvl_5_38 : vl 5 38 = some (19, 1) := by decide +kernel
theorem zvl_5_41 : vl 5 41 = some (20, 1) := by decide +kernel
theorem zr_37 : mR 37 = some .boolean := by decide +kernel
theorem zvl_3_58 : vl 3 58 = some (37, 2) := by decide +kernel
theorem zl_37 : mL 37 = 5 := by decide +kernel
theorem zo_37 : mO 37 = 3 := by decide +kernel
theorem zb_91 : toB 91 = 91 := by decide +kernel
theorem zcl_3_67 : cl_ 3 67 = none := by decide +kernel
theorem zrl_3_67 : rl 3 67 = some 125 := by decide +kernel
theorem zr_26 : mR 26 = some .int := by decide +kernel
theorem zvl_3_69 : vl 3 69 = some (26, 1) := by decide +kernel
theorem zl_26 : mL 26 = 2 := by decide +kernel
theorem zk1_125 : (mk 125).1 = 13 := by decide +kernel
theorem zo_26 : mO 26 = 13 := by decide +kernel
theorem zb_93 : toB 93 = 93 := by decide +kernel
theorem zr_34 : mR 34 = some .int := by decide +kernel
theorem zsl_3_64 : sl 3 64 = some (34, 1) := by decide +kernel
theorem zl_34 : mL 34 = 1 := by decide +kernel
theorem zr_85 : mR 85 = some .int := by decide +kernel
theorem zsl_4_51 : sl 4 51 = some (85, 3) := by decide +kernel
theorem zl_85 : mL 85 = 5 := by decide +kernel
theorem zr_129 : mR 129 = none := by decide +kernel
theorem zvl_7_53 : vl 7 53 = some (129, 4) := by decide +kernel
theorem zl_129 : mL 129 = 6 := by decide +kernel
theorem zo_129 : mO 129 = 7 := by decide +kernel
theorem zlt_130 : 130 < nC := by decide +kernel
theorem zo_191 : mO 191 = 12 := by decide +kernel
theorem zk1_130 : (mk 130).1 = 13 := by decide +kernel
theorem zb_57 : toB 57 = 57 := by decide +kernel
theorem zfl_13_9 : fl 13 9 = some (13, 0) := by decide +kernel
theorem zft_13_0 : ft 13 0 = 2 := by decide +kernel
theorem zmr_126_0 : mr 126 0 = 133 := by decide +kernel
theorem zk_133 : mk 133 = (111, 1) := by decide +kernel
theorem zr_29 : mR 29 = some .byte := by decide +kernel
theorem zvl_13_335 : vl 13 335 = some (29, 0) := by decide +kernel
theorem zl_29 : mL 29 = 1 := by decide +kernel
theorem zo_29 : mO 29 = 13 := by decide +kernel
theorem zr_12 : mR 12 = some .boolean := by decide +kernel
theorem zvl_13_492 : vl 13 492 = some (12, 0) := by decide +kernel
theorem zl_12 : mL 12 = 1 := by decide +kernel
theorem zo_12 : mO 12 = 13 := by decide +kernel
theorem zr_13 : mR 13 = some .char := by decide +kernel
theorem zsl_13_495 : sl 13 495 = some (13, 2) := by decide +kernel
theorem zl_13 : mL 13 = 2 := by decide +kernel
theorem zr_209 : mR 209 = some .boolean := by decide +kernel
theorem zvl_12_158 : vl 12 158 = some (209, 0) := by decide +kernel
theorem zl_209 : mL 209 = 1 := by decide +kernel
theorem zo_209 : mO 209 = 12 := by decide +kernel
theorem zb_41 : toB 41 = 41 := by decide +kernel
theorem zb_38 : toB 38 = 38 := by decide +kernel
theorem zcl_12_32 : cl_ 12 32 = none := by decide +kernel
theorem zrl_12_32 : rl 12 32 = some 125 := by decide +kernel
theorem zb_42 : toB 42 = 42 := by decide +kernel
theorem zb_47 : toB 47 = 47 := by decide +kernel
theorem zr_210 : mR 210 = some .int := by decide +kernel
theorem zsl_12_174 : sl 12 174 = some (210, 1) := by decide +kernel
theorem zl_210 : mL 210 = 2 := by decide +kernel
theorem zlt_21 : 21 < nC := by decide +kernel
theorem zlt_125 : 125 < nC := by decide +kernel
theorem zr_27 : mR 27 = some .int := by decide +kernel
theorem zvl_13_633 : vl 13 633 = some (27, 2) := by decide +kernel
theorem zl_27 : mL 27 = 3 := by decide +kernel
theorem zo_27 : mO 27 = 13 := by decide +kernel
theorem zvl_3_74 : vl 3 74 = some (16, 1) := by decide +kernel
theorem zmr_130_0 : mr 130 0 = 137 := by decide +kernel
theorem zk_137 : mk 137 = (111, 4) := by decide +kernel
theorem zgl_13_38 : gl 13 38 = some (0, 1) := by decide +kernel
theorem zfl_13_15 : fl 13 15 = some (13, 1) := by decide +kernel
theorem zft_13_1 : ft 13 1 = 4 := by decide +kernel
theorem zlt_133 : 133 < nC := by decide +kernel
theorem zr_14 : mR 14 = none := by decide +kernel
theorem zo_13 : mO 13 = 14 := by decide +kernel
theorem zsl_14_9 : sl 14 9 = some (14, 2) := by decide +kernel
theorem zl_14 : mL 14 = 2 := by decide +kernel
theorem zll_12_141 : ll 12 141 = some (-1000000) := by decide +kernel
theorem zo_210 : mO 210 = 12 := by decide +kernel
theorem zsl_12_145 : sl 12 145 = none := by decide +kernel
theorem zml_12_145 : ml 12 145 = some 4 := by decide +kernel
theorem zna_12_145 : ¬ (12, 145) ∈ aL := by decide +kernel
theorem zsl_12_151 : sl 12 151 = none := by decide +kernel
theorem zml_12_151 : ml 12 151 = some 3 := by decide +kernel
theorem zna_12_151 : ¬ (12, 151) ∈ aL := by decide +kernel
theorem zlt_129 : 129 < nC := by decide +kernel
theorem zk1_129 : (mk 129).1 = 13 := by decide +kernel
theorem zlt_107 : 107 < nC := by decide +kernel
theorem zlt_128 : 128 < nC := by decide +kernel
theorem zk1_128 : (mk 128).1 = 13 := by decide +kernel
theorem zlt_105 : 105 < nC := by decide +kernel
theorem zlt_127 : 127 < nC := by decide +kernel
theorem zk1_127 : (mk 127).1 = 13 := by decide +kernel
theorem zlt_103 : 103 < nC := by decide +kernel
theorem zcl_6_93 : cl_ 6 93 = none := by decide +kernel
theorem zrl_6_93 : rl 6 93 = some 124 := by decide +kernel
theorem zo_10 : mO 10 = 6 := by decide +kernel
theorem zvl_6_95 : vl 6 95 = some (11, 1) := by decide +kernel
theorem zk1_124 : (mk 124).1 = 13 := by decide +kernel
theorem zmr_125_0 : mr 125 0 = 132 := by decide +kernel
theorem zvl_13_505 : vl 13 505 = some (28, 0) := by decide +kernel
theorem zr_30 : mR 30 = some .int := by decide +kernel
theorem zsl_13_637 : sl 13 637 = some (30, 4) := by decide +kernel
theorem zl_30 : mL 30 = 4 := by decide +kernel
theorem zll_4_55 : ll 4 55 = some 1000000 := by decide +kernel
theorem zo_85 : mO 85 = 4 := by decide +kernel
theorem zll_4_58 : ll 4 58 = some (-1000000) := by decide +kernel
theorem zcl_4_60 : cl_ 4 60 = some (-1000000) := by decide +kernel
theorem zcl_4_57 : cl_ 4 57 = some 1000000 := by decide +kernel
theorem zlt_137 : 137 < nC := by decide +kernel
theorem zgl_13_1053 : gl 13 1053 = some (1, 999) := by decide +kernel
theorem zo_14 : mO 14 = 13 := by decide +kernel
theorem zr_15 : mR 15 = some .int := by decide +kernel
theorem zsl_13_1059 : sl 13 1059 = some (15, 3) := by decide +kernel
theorem zl_15 : mL 15 = 3 := by decide +kernel
theorem zmr_129_0 : mr 129 0 = 136 := by decide +kernel
theorem zk_136 : mk 136 = (111, 3) := by decide +kernel
theorem zr_193 : mR 193 = some .int := by decide +kernel
theorem zsl_12_233 : sl 12 233 = some (193, 2) := by decide +kernel
theorem zl_193 : mL 193 = 2 := by decide +kernel
theorem zr_194 : mR 194 = some .int := by decide +kernel
theorem zsl_12_236 : sl 12 236 = some (194, 2) := by decide +kernel
theorem zl_194 : mL 194 = 2 := by decide +kernel
theorem zr_195 : mR 195 = some .int := by decide +kernel
theorem zvl_12_239 : vl 12 239 = some (195, 2) := by decide +kernel
theorem zl_195 : mL 195 = 5 := by decide +kernel
theorem zo_195 : mO 195 = 12 := by decide +kernel
theorem zmr_128_0 : mr 128 0 = 135 := by decide +kernel
theorem zk_135 : mk 135 = (111, 3) := by decide +kernel
theorem zmr_127_0 : mr 127 0 = 134 := by decide +kernel
theorem zk_134 : mk 134 = (111, 4) := by decide +kernel
theorem zlt_124 : 124 < nC := by decide +kernel
theorem zmr_124_0 : mr 124 0 = 131 := by decide +kernel
theorem zk_132 : mk 132 = (111, 6) := by decide +kernel
theorem zr_31 : mR 31 = some .boolean := by decide +kernel
theorem zo_30 : mO 30 = 14 := by decide +kernel
theorem zsl_14_88 : sl 14 88 = some (31, 1) := by decide +kernel
theorem zl_31 : mL 31 = 1 := by decide +kernel
theorem zsl_14_92 : sl 14 92 = none := by decide +kernel
theorem zml_14_92 : ml 14 92 = some 0 := by decide +kernel
theorem zna_14_92 : ¬ (14, 92) ∈ aL := by decide +kernel
theorem zlt_132 : 132 < nC := by decide +kernel
theorem zsl_14_38 : sl 14 38 = none := by decide +kernel
theorem zml_14_38 : ml 14 38 = some 1 := by decide +kernel
theorem zna_14_38 : ¬ (14, 38) ∈ aL := by decide +kernel
theorem zr_32 : mR 32 = some .int := by decide +kernel
theorem zsl_14_95 : sl 14 95 = some (32, 4) := by decide +kernel
theorem zl_32 : mL 32 = 6 := by decide +kernel
theorem zr_197 : mR 197 = some .int := by decide +kernel
theorem zvl_12_214 : vl 12 214 = some (197, 0) := by decide +kernel
theorem zl_197 : mL 197 = 1 := by decide +kernel
theorem zo_197 : mO 197 = 12 := by decide +kernel
theorem zlt_131 : 131 < nC := by decide +kernel
theorem zk_131 : mk 131 = (111, 10) := by decide +kernel
theorem zlt_136 : 136 < nC := by decide +kernel
theorem zlt_135 : 135 < nC := by decide +kernel
theorem zlt_134 : 134 < nC := by decide +kernel
