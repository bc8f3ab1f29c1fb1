/-! the methods as equations of Run: CannonPost.allSayable=105, CannonPost.fire=78, CannonPost.stepOnce=119, CannonPostModel.ask=280, CannonPostModel.blows=243, CannonPostModel.canKnow=276, CannonPostModel.clause=200, CannonPostModel.comesTo=231, CannonPostModel.condition=203, CannonPostModel.digit=215, CannonPostModel.fails=189, CannonPostModel.goHour=247, CannonPostModel.goRoute=268, CannonPostModel.goThrough=199, CannonPostModel.goesOn=275, CannonPostModel.hasAim=283, CannonPostModel.isAmong=201, CannonPostModel.isFree=228, CannonPostModel.isSign=211, CannonPostModel.isWhole=198, CannonPostModel.layAims=264, CannonPostModel.look=188, CannonPostModel.netOf=282, CannonPostModel.part=204, CannonPostModel.readClause=187, CannonPostModel.readLeague=184, CannonPostModel.readPlan=213, CannonPostModel.readStep=214, CannonPostModel.says=250, CannonPostModel.shoots=230, CannonPostModel.spotOf=191, CannonPostModel.starts=185, CannonPostModel.sum=206, CannonPostModel.takes=202, CannonPostModel.term=207, CannonPostModel.text=216, CannonPostModel.weightFor=292, Flight.reckon=126, Guesses.explains=151, Guesses.mostTogether=155, Guesses.product=161, Guesses.reachBy=152, LawReader.comparing=35, LawReader.readClause=23, LawReader.readSum=24, LawReader.write=33, Lawbook.worth=84, League.firstFort=19, League.isWhole=17, LeagueReader.readClause=7, LeagueReader.readItems=9, Paths.firstShot=133, Paths.link=139, Paths.trace=128, State.passHour=100, Tape.digit=42, java/util/Arrays.fill=48 -/
-- CannonPost.stepOnce(LCannonPost$State;II)V at 0
theorem q119_0_1 (d : Nat) (x0 : Int) (x1 : Int) (h : MH) : Run (d + 1) 119 0 [.inr (.inr (.inl 0)), .inr (.inr (.inl 12)), .inl x0, .inl x1, vU, vU] [] h = (cI (Run d 115 0 [.inr (.inr (.inl 7)), .inl x0, .inl x1, .inl 1] [] h) fun a2_ h1_ => (cI (Run d 115 0 [.inr (.inr (.inl 7)), .inl x0, .inl x1, .inl 2] [] h1_) fun a4_ h3_ => (cI (Run d 115 0 [.inr (.inr (.inl 7)), .inl x0, .inl x1, .inl 0] [] h3_) fun a6_ h5_ => (if a6_ = 0 then (cI (Run d 115 0 [.inr (.inr (.inl 7)), .inl x0, .inl x1, .inl 3] [] h5_) fun a9_ h8_ => (cI (Run d 105 0 [.inr (.inr (.inl 0)), .inr (.inr (.inl 12)), .inl a2_, vU, vU, vU] [] h8_) fun a11_ h10_ => (cI (Run d 78 0 [.inr (.inr (.inl 0)), .inr (.inr (.inl 12)), .inl a2_, .inl a9_, .inl a4_, .inl a11_, vU, vU] [] h10_) fun a13_ h12_ => some (none, h12_)))) else (if a6_ = 1 then (cV (Run d 100 0 [.inr (.inr (.inl 12)), .inl (h5_ 2 3), vU] [] h5_) fun h15_ => some (none, h15_)) else (if a6_ = 2 then some (none, (up (up h5_ 91 1 a2_) 91 2 a4_)) else (if 0 ≤ (wI (29 + a2_)) ∧ (wI (29 + a2_)) < 37 then (if 0 ≤ (wI (29 + a2_)) ∧ (wI (29 + a2_)) < 37 then some (none, (up h5_ 91 (wI (29 + a2_)).toNat (iOr (h5_ 91 (wI (29 + a2_)).toNat) (iShl 1 a4_)))) else none) else none))))))) := by
  refine (R_aload_n zf119_0 rfl zlt_0 rfl).trans ?_
  refine (R_getR zf119_1 zo_119 zfl_11_49 zk1_0 zft_11_5 zmr_0_5 rfl).trans ?_
  refine (R_iload_n zf119_4 rfl rfl).trans ?_
  refine (R_iload_n zf119_5 rfl rfl).trans ?_
  refine (R_iconst zf119_6 zw_1 rfl).trans ?_
  refine (R_vcallI zf119_7 zo_119 zvl_11_314 (by rw [zr_115]; rfl) zl_115 (Nat.le_of_ble_eq_true rfl) rfl rfl (Nat.le_of_ble_eq_true rfl) (Nat.le_of_ble_eq_true rfl) (es := [.inr (.inr (.inl 7)), .inl x0, .inl x1, .inl 1]) rfl rfl zk1_7 zo_115).trans ?_
  refine congrArg (cI _) (funext fun a2_ => funext fun h1_ => ?_)
  refine (R_istore (ls' := [.inr (.inr (.inl 0)), .inr (.inr (.inl 12)), .inl x0, .inl x1, .inl a2_, vU]) zf119_10 (Nat.le_of_ble_eq_true rfl) rfl rfl).trans ?_
  refine (R_aload_n zf119_12 rfl zlt_0 rfl).trans ?_
  refine (R_getR zf119_13 zo_119 zfl_11_49 zk1_0 zft_11_5 zmr_0_5 rfl).trans ?_
  refine (R_iload_n zf119_16 rfl rfl).trans ?_
  refine (R_iload_n zf119_17 rfl rfl).trans ?_
  refine (R_iconst zf119_18 zw_2 rfl).trans ?_
  refine (R_vcallI zf119_19 zo_119 zvl_11_314 (by rw [zr_115]; rfl) zl_115 (Nat.le_of_ble_eq_true rfl) rfl rfl (Nat.le_of_ble_eq_true rfl) (Nat.le_of_ble_eq_true rfl) (es := [.inr (.inr (.inl 7)), .inl x0, .inl x1, .inl 2]) rfl rfl zk1_7 zo_115).trans ?_
  refine congrArg (cI _) (funext fun a4_ => funext fun h3_ => ?_)
  refine (R_istore (ls' := [.inr (.inr (.inl 0)), .inr (.inr (.inl 12)), .inl x0, .inl x1, .inl a2_, .inl a4_]) zf119_22 (Nat.le_of_ble_eq_true rfl) rfl rfl).trans ?_
  refine (R_aload_n zf119_24 rfl zlt_0 rfl).trans ?_
  refine (R_getR zf119_25 zo_119 zfl_11_49 zk1_0 zft_11_5 zmr_0_5 rfl).trans ?_
  refine (R_iload_n zf119_28 rfl rfl).trans ?_
  refine (R_iload_n zf119_29 rfl rfl).trans ?_
  refine (R_iconst zf119_30 zw_0 rfl).trans ?_
  refine (R_vcallI zf119_31 zo_119 zvl_11_314 (by rw [zr_115]; rfl) zl_115 (Nat.le_of_ble_eq_true rfl) rfl rfl (Nat.le_of_ble_eq_true rfl) (Nat.le_of_ble_eq_true rfl) (es := [.inr (.inr (.inl 7)), .inl x0, .inl x1, .inl 0]) rfl rfl zk1_7 zo_115).trans ?_
  refine congrArg (cI _) (funext fun a6_ => funext fun h5_ => ?_)
  refine (switch_if (c := a6_ = 0) (fun c7_ => ?_) (fun c7_ => ?_))
  · refine (R_tsw (t := 60) zf119_34 (by omega) (by rw [c7_]; rfl) rfl).trans ?_
    refine (R_aload_n zf119_60 rfl zlt_0 rfl).trans ?_
    refine (R_aload_n zf119_61 rfl zlt_12 rfl).trans ?_
    refine (R_iload zf119_62 rfl rfl).trans ?_
    refine (R_aload_n zf119_64 rfl zlt_0 rfl).trans ?_
    refine (R_getR zf119_65 zo_119 zfl_11_49 zk1_0 zft_11_5 zmr_0_5 rfl).trans ?_
    refine (R_iload_n zf119_68 rfl rfl).trans ?_
    refine (R_iload_n zf119_69 rfl rfl).trans ?_
    refine (R_iconst zf119_70 zw_3 rfl).trans ?_
    refine (R_vcallI zf119_71 zo_119 zvl_11_314 (by rw [zr_115]; rfl) zl_115 (Nat.le_of_ble_eq_true rfl) rfl rfl (Nat.le_of_ble_eq_true rfl) (Nat.le_of_ble_eq_true rfl) (es := [.inr (.inr (.inl 7)), .inl x0, .inl x1, .inl 3]) rfl rfl zk1_7 zo_115).trans ?_
    refine congrArg (cI _) (funext fun a9_ => funext fun h8_ => ?_)
    refine (R_iload zf119_74 rfl rfl).trans ?_
    refine (R_aload_n zf119_76 rfl zlt_0 rfl).trans ?_
    refine (R_aload_n zf119_77 rfl zlt_12 rfl).trans ?_
    refine (R_iload zf119_78 rfl rfl).trans ?_
    refine (R_vcallI zf119_80 zo_119 zvl_11_300 (by rw [zr_105]; rfl) zl_105 (Nat.le_of_ble_eq_true rfl) rfl rfl (Nat.le_of_ble_eq_true rfl) (Nat.le_of_ble_eq_true rfl) (es := [.inr (.inr (.inl 0)), .inr (.inr (.inl 12)), .inl a2_, vU, vU, vU]) rfl rfl zk1_0 zo_105).trans ?_
    refine congrArg (cI _) (funext fun a11_ => funext fun h10_ => ?_)
    refine (R_vcallI zf119_83 zo_119 zvl_11_239 (by rw [zr_78]; rfl) zl_78 (Nat.le_of_ble_eq_true rfl) rfl rfl (Nat.le_of_ble_eq_true rfl) (Nat.le_of_ble_eq_true rfl) (es := [.inr (.inr (.inl 0)), .inr (.inr (.inl 12)), .inl a2_, .inl a9_, .inl a4_, .inl a11_, vU, vU]) rfl rfl zk1_0 zo_78).trans ?_
    refine congrArg (cI _) (funext fun a13_ => funext fun h12_ => ?_)
    refine (R_pop zf119_86 rfl rfl).trans ?_
    refine (R_goto (t := 140) zf119_87 rfl).trans ?_
    exact R_return zf119_140 zr_119
  refine (switch_if (c := a6_ = 1) (fun c14_ => ?_) (fun c14_ => ?_))
  · refine (R_tsw (t := 90) zf119_34 (by omega) (by rw [c14_]; rfl) rfl).trans ?_
    refine (R_aload_n zf119_90 rfl zlt_12 rfl).trans ?_
    refine (R_aload_n zf119_91 rfl zlt_0 rfl).trans ?_
    refine (R_getR zf119_92 zo_119 zfl_11_19 zk1_0 zft_11_1 zmr_0_1 rfl).trans ?_
    refine (R_getI zf119_95 zo_119 zfl_11_119 zk1_2 zft_5_3 rfl).trans ?_
    refine (R_vcallV zf119_98 zo_119 zvl_11_252 zr_100 zl_100 (Nat.le_of_ble_eq_true rfl) rfl rfl (Nat.le_of_ble_eq_true rfl) (Nat.le_of_ble_eq_true rfl) (es := [.inr (.inr (.inl 12)), .inl (h5_ 2 3), vU]) rfl rfl zk1_12 zo_100).trans ?_
    refine congrArg (cV _) (funext fun h15_ => ?_)
    refine (R_goto (t := 140) zf119_101 rfl).trans ?_
    exact R_return zf119_140 zr_119
  refine (switch_if (c := a6_ = 2) (fun c16_ => ?_) (fun c16_ => ?_))
  · refine (R_tsw (t := 104) zf119_34 (by omega) (by rw [c16_]; rfl) rfl).trans ?_
    refine (R_aload_n zf119_104 rfl zlt_12 rfl).trans ?_
    refine (R_getR zf119_105 zo_119 zfl_11_162 zk1_12 zft_9_0 zmr_12_0 rfl).trans ?_
    refine (R_iconst zf119_108 zw_1 rfl).trans ?_
    refine (R_iload zf119_109 rfl rfl).trans ?_
    refine (R_iastc zf119_111 zk_91 (by decide) rfl rfl).trans ?_
    refine (R_aload_n zf119_112 rfl zlt_12 rfl).trans ?_
    refine (R_getR zf119_113 zo_119 zfl_11_162 zk1_12 zft_9_0 zmr_12_0 rfl).trans ?_
    refine (R_iconst zf119_116 zw_2 rfl).trans ?_
    refine (R_iload zf119_117 rfl rfl).trans ?_
    refine (R_iastc zf119_119 zk_91 (by decide) rfl rfl).trans ?_
    refine (R_goto (t := 140) zf119_120 rfl).trans ?_
    exact R_return zf119_140 zr_119
  refine (R_tswD (t := 123) zf119_34 (by omega) rfl).trans ?_
  refine (R_aload_n zf119_123 rfl zlt_12 rfl).trans ?_
  refine (R_getR zf119_124 zo_119 zfl_11_162 zk1_12 zft_9_0 zmr_12_0 rfl).trans ?_
  refine (R_bipush zf119_127 zb_29 rfl).trans ?_
  refine (R_iload zf119_129 rfl rfl).trans ?_
  refine (R_iadd zf119_131 rfl).trans ?_
  refine (R_dup2 zf119_132 rfl rfl rfl).trans ?_
  refine (R_iald zf119_133 zk_91 rfl).trans ?_
  refine ite_congr rfl (fun c17_ => ?_) (fun _ => rfl)
  refine (R_iconst zf119_134 zw_1 rfl).trans ?_
  refine (R_iload zf119_135 rfl rfl).trans ?_
  refine (R_ishl zf119_137 rfl).trans ?_
  refine (R_ior zf119_138 rfl).trans ?_
  refine (R_iast zf119_139 zk_91 rfl).trans ?_
  refine ite_congr rfl (fun c18_ => ?_) (fun _ => rfl)
  exact R_return zf119_140 zr_119
-- CannonPost$Lawbook.worth()I at 34
theorem q84_34 (d : Nat) (r0 : Nat) (hr0 : r0 < 4) (x1 : Int) (x2 : Int) (z3 : MV) (hz3 : cat z3 = 1) (z4 : MV) (hz4 : cat z4 = 1) (h : MH) : Run (d + 1) 84 34 [.inr (.inr (.inl 6)), .inr (.inr (.inl (25 + r0))), .inl x1, .inl x2, z3, z4] [] h = (if 0 ≤ (h 6 2) ∧ (h 6 2) < 4 then (if (h 29 (h 6 2).toNat) ≤ x2 then some (some (.inl 0), h) else (if 0 ≤ x2 ∧ x2 < 240 then (if 0 ≤ x2 ∧ x2 < 240 then (if ((h (25 + r0) x2.toNat).tmod 16) = 0 then (if 64 ≤ x1 then some (some (.inl 0), h) else (if ¬ ((h (25 + r0) x2.toNat).tmod 16) = 1 then Run (d + 1) 84 98 [.inr (.inr (.inl 6)), .inr (.inr (.inl (25 + r0))), .inl x1, .inl x2, .inl ((h (25 + r0) x2.toNat).tmod 16), .inl (wI ((h (25 + r0) x2.toNat).tdiv 16))] [] h else (if (wI ((h (25 + r0) x2.toNat).tdiv 16)) < 6 then Run (d + 1) 84 98 [.inr (.inr (.inl 6)), .inr (.inr (.inl (25 + r0))), .inl x1, .inl x2, .inl ((h (25 + r0) x2.toNat).tmod 16), .inl (wI ((h (25 + r0) x2.toNat).tdiv 16))] [] h else some (some (.inl 0), h)))) else (if ¬ ((h (25 + r0) x2.toNat).tmod 16) = 1 then (if ¬ ((h (25 + r0) x2.toNat).tmod 16) = 11 then Run (d + 1) 84 159 [.inr (.inr (.inl 6)), .inr (.inr (.inl (25 + r0))), .inl x1, .inl x2, .inl ((h (25 + r0) x2.toNat).tmod 16), .inl (wI ((h (25 + r0) x2.toNat).tdiv 16))] [] h else (if x1 ≤ 0 then Run (d + 1) 84 159 [.inr (.inr (.inl 6)), .inr (.inr (.inl (25 + r0))), .inl x1, .inl x2, .inl ((h (25 + r0) x2.toNat).tmod 16), .inl (wI ((h (25 + r0) x2.toNat).tdiv 16))] [] h else (if 0 ≤ (wI (x1 - 1)) ∧ (wI (x1 - 1)) < 64 then (if 0 ≤ (wI (x1 - 1)) ∧ (wI (x1 - 1)) < 64 then Run (d + 1) 84 34 [.inr (.inr (.inl 6)), .inr (.inr (.inl (25 + r0))), .inl x1, .inl (wI (x2 + 1)), .inl ((h (25 + r0) x2.toNat).tmod 16), .inl (wI ((h (25 + r0) x2.toNat).tdiv 16))] [] (up h 30 (wI (x1 - 1)).toNat (wI (1 - (h 30 (wI (x1 - 1)).toNat)))) else none) else none))) else (if 64 ≤ x1 then some (some (.inl 0), h) else (if ¬ ((h (25 + r0) x2.toNat).tmod 16) = 1 then Run (d + 1) 84 98 [.inr (.inr (.inl 6)), .inr (.inr (.inl (25 + r0))), .inl x1, .inl x2, .inl ((h (25 + r0) x2.toNat).tmod 16), .inl (wI ((h (25 + r0) x2.toNat).tdiv 16))] [] h else (if (wI ((h (25 + r0) x2.toNat).tdiv 16)) < 6 then Run (d + 1) 84 98 [.inr (.inr (.inl 6)), .inr (.inr (.inl (25 + r0))), .inl x1, .inl x2, .inl ((h (25 + r0) x2.toNat).tmod 16), .inl (wI ((h (25 + r0) x2.toNat).tdiv 16))] [] h else some (some (.inl 0), h)))))) else none) else none)) else none) := by
  refine (R_iload_n zf84_34 rfl rfl).trans ?_
  refine (R_aload_n zf84_35 rfl zlt_6 rfl).trans ?_
  refine (R_getR zf84_36 zo_84 zfl_4_26 zk1_6 zft_4_4 zmr_6_4 rfl).trans ?_
  refine (R_aload_n zf84_39 rfl zlt_6 rfl).trans ?_
  refine (R_getI zf84_40 zo_84 zfl_4_15 zk1_6 zft_4_2 rfl).trans ?_
  refine (R_iald zf84_43 zk_29 rfl).trans ?_
  refine ite_congr rfl (fun c1_ => ?_) (fun _ => rfl)
  refine (R_icmp_ge (t := 259) zf84_44 rfl rfl).trans ?_
  refine ite_congr rfl (fun c2_ => ?_) (fun c2_ => ?_)
  · refine (R_iconst zf84_259 zw_0 rfl).trans ?_
    exact R_ireturn_i zf84_260 zr_84
  · refine (R_aload_n zf84_47 rfl (Nat.lt_trans (show (25 + r0) < 29 by omega) (by decide +kernel)) rfl).trans ?_
    refine (R_iload_n zf84_48 rfl rfl).trans ?_
    refine (R_iald zf84_49 (zgrid_25 _ (by omega)) rfl).trans ?_
    refine ite_congr rfl (fun c3_ => ?_) (fun _ => rfl)
    refine (R_bipush zf84_50 zb_16 rfl).trans ?_
    refine (R_irem zf84_52 (by decide) rfl).trans ?_
    refine (R_istore (ls' := [.inr (.inr (.inl 6)), .inr (.inr (.inl (25 + r0))), .inl x1, .inl x2, .inl ((h (25 + r0) x2.toNat).tmod 16), z4]) zf84_53 (Nat.le_of_ble_eq_true rfl) rfl rfl).trans ?_
    refine (R_aload_n zf84_55 rfl (Nat.lt_trans (show (25 + r0) < 29 by omega) (by decide +kernel)) rfl).trans ?_
    refine (R_iload_n zf84_56 rfl rfl).trans ?_
    refine (R_iald zf84_57 (zgrid_25 _ (by omega)) rfl).trans ?_
    refine ite_congr rfl (fun c4_ => ?_) (fun _ => rfl)
    refine (R_bipush zf84_58 zb_16 rfl).trans ?_
    refine (R_idiv zf84_60 (by decide) rfl).trans ?_
    refine (R_istore (ls' := [.inr (.inr (.inl 6)), .inr (.inr (.inl (25 + r0))), .inl x1, .inl x2, .inl ((h (25 + r0) x2.toNat).tmod 16), .inl (wI ((h (25 + r0) x2.toNat).tdiv 16))]) zf84_61 (Nat.le_of_ble_eq_true rfl) rfl rfl).trans ?_
    refine (R_iload zf84_63 rfl rfl).trans ?_
    refine (R_if_eq (t := 74) zf84_65 rfl rfl).trans ?_
    refine ite_congr rfl (fun c5_ => ?_) (fun c5_ => ?_)
    · refine (R_iload_n zf84_74 rfl rfl).trans ?_
      refine (R_bipush zf84_75 zb_64 rfl).trans ?_
      refine (R_icmp_ge (t := 96) zf84_77 rfl rfl).trans ?_
      refine ite_congr rfl (fun c6_ => ?_) (fun c6_ => ?_)
      · refine (R_iconst zf84_96 zw_0 rfl).trans ?_
        exact R_ireturn_i zf84_97 zr_84
      · refine (R_iload zf84_80 rfl rfl).trans ?_
        refine (R_iconst zf84_82 zw_1 rfl).trans ?_
        refine (R_icmp_ne (t := 98) zf84_83 rfl rfl).trans ?_
        refine ite_congr rfl (fun c7_ => ?_) (fun c7_ => ?_)
        · rfl
        · refine (R_iload zf84_86 rfl rfl).trans ?_
          refine (R_aload_n zf84_88 rfl zlt_6 rfl).trans ?_
          refine (R_getR zf84_89 zo_84 zfl_4_9 zk1_6 zft_4_0 zmr_6_0 rfl).trans ?_
          refine (R_len100 (v := 6) zf84_92 zk_23 rfl rfl).trans ?_
          refine (R_icmp_lt (t := 98) zf84_93 rfl rfl).trans ?_
          refine ite_congr rfl (fun c8_ => ?_) (fun c8_ => ?_)
          · rfl
          · refine (R_iconst zf84_96 zw_0 rfl).trans ?_
            exact R_ireturn_i zf84_97 zr_84
    · refine (R_iload zf84_68 rfl rfl).trans ?_
      refine (R_iconst zf84_70 zw_1 rfl).trans ?_
      refine (R_icmp_ne (t := 127) zf84_71 rfl rfl).trans ?_
      refine ite_congr rfl (fun c9_ => ?_) (fun c9_ => ?_)
      · refine (R_iload zf84_127 rfl rfl).trans ?_
        refine (R_bipush zf84_129 zb_11 rfl).trans ?_
        refine (R_icmp_ne (t := 159) zf84_131 rfl rfl).trans ?_
        refine ite_congr rfl (fun c10_ => ?_) (fun c10_ => ?_)
        · rfl
        · refine (R_iload_n zf84_134 rfl rfl).trans ?_
          refine (R_if_le (t := 159) zf84_135 rfl rfl).trans ?_
          refine ite_congr rfl (fun c11_ => ?_) (fun c11_ => ?_)
          · rfl
          · refine (R_aload_n zf84_138 rfl zlt_6 rfl).trans ?_
            refine (R_getR zf84_139 zo_84 zfl_4_29 zk1_6 zft_4_5 zmr_6_5 rfl).trans ?_
            refine (R_iload_n zf84_142 rfl rfl).trans ?_
            refine (R_iconst zf84_143 zw_1 rfl).trans ?_
            refine (R_isub zf84_144 rfl).trans ?_
            refine (R_iconst zf84_145 zw_1 rfl).trans ?_
            refine (R_aload_n zf84_146 rfl zlt_6 rfl).trans ?_
            refine (R_getR zf84_147 zo_84 zfl_4_29 zk1_6 zft_4_5 zmr_6_5 rfl).trans ?_
            refine (R_iload_n zf84_150 rfl rfl).trans ?_
            refine (R_iconst zf84_151 zw_1 rfl).trans ?_
            refine (R_isub zf84_152 rfl).trans ?_
            refine (R_iald zf84_153 zk_30 rfl).trans ?_
            refine ite_congr rfl (fun c12_ => ?_) (fun _ => rfl)
            refine (R_isub zf84_154 rfl).trans ?_
            refine (R_iast zf84_155 zk_30 rfl).trans ?_
            refine ite_congr rfl (fun c13_ => ?_) (fun _ => rfl)
            refine (R_goto (t := 253) zf84_156 rfl).trans ?_
            refine (R_iinc (ls' := [.inr (.inr (.inl 6)), .inr (.inr (.inl (25 + r0))), .inl x1, .inl (wI (x2 + 1)), .inl ((h (25 + r0) x2.toNat).tmod 16), .inl (wI ((h (25 + r0) x2.toNat).tdiv 16))]) zf84_253 rfl rfl rfl).trans ?_
            refine (R_goto (t := 34) zf84_256 rfl).trans ?_
            rfl
      · refine (R_iload_n zf84_74 rfl rfl).trans ?_
        refine (R_bipush zf84_75 zb_64 rfl).trans ?_
        refine (R_icmp_ge (t := 96) zf84_77 rfl rfl).trans ?_
        refine ite_congr rfl (fun c14_ => ?_) (fun c14_ => ?_)
        · refine (R_iconst zf84_96 zw_0 rfl).trans ?_
          exact R_ireturn_i zf84_97 zr_84
        · refine (R_iload zf84_80 rfl rfl).trans ?_
          refine (R_iconst zf84_82 zw_1 rfl).trans ?_
          refine (R_icmp_ne (t := 98) zf84_83 rfl rfl).trans ?_
          refine ite_congr rfl (fun c15_ => ?_) (fun c15_ => ?_)
          · rfl
          · refine (R_iload zf84_86 rfl rfl).trans ?_
            refine (R_aload_n zf84_88 rfl zlt_6 rfl).trans ?_
            refine (R_getR zf84_89 zo_84 zfl_4_9 zk1_6 zft_4_0 zmr_6_0 rfl).trans ?_
            refine (R_len100 (v := 6) zf84_92 zk_23 rfl rfl).trans ?_
            refine (R_icmp_lt (t := 98) zf84_93 rfl rfl).trans ?_
            refine ite_congr rfl (fun c16_ => ?_) (fun c16_ => ?_)
            · rfl
            · refine (R_iconst zf84_96 zw_0 rfl).trans ?_
              exact R_ireturn_i zf84_97 zr_84
-- CannonPost$Flight.reckon(LCannonPost$State;II)V at 41
theorem q126_41 (d : Nat) (x0 : Int) (x1 : Int) (x2 : Int) (x3 : Int) (z4 : MV) (hz4 : cat z4 = 1) (z5 : MV) (hz5 : cat z5 = 1) (z6 : MV) (hz6 : cat z6 = 1) (z7 : MV) (hz7 : cat z7 = 1) (h : MH) : Run (d + 1) 126 41 [.inr (.inr (.inl 8)), .inr (.inr (.inl 12)), .inl x0, .inl x1, .inl x2, .inl x3, z4, z5, z6, z7] [] h = (if 1 < x3 then some (none, h) else (cI (Run d 80 0 [.inl (h 91 1), .inl (h 91 2), .inl x3] [] h) fun a3_ h2_ => Run (d + 1) 126 69 [.inr (.inr (.inl 8)), .inr (.inr (.inl 12)), .inl x0, .inl x1, .inl x2, .inl x3, .inl a3_, .inl 1, z6, z7] [] h2_)) := by
  refine (R_iload zf126_41 rfl rfl).trans ?_
  refine (R_iconst zf126_43 zw_1 rfl).trans ?_
  refine (R_icmp_gt (t := 168) zf126_44 rfl rfl).trans ?_
  refine ite_congr rfl (fun c1_ => ?_) (fun c1_ => ?_)
  · exact R_return zf126_168 zr_126
  · refine (R_aload_n zf126_47 rfl zlt_12 rfl).trans ?_
    refine (R_getR zf126_48 zo_126 zfl_0_66 zk1_12 zft_9_0 zmr_12_0 rfl).trans ?_
    refine (R_iconst zf126_51 zw_1 rfl).trans ?_
    refine (R_ialdc zf126_52 zk_91 (by decide) rfl rfl).trans ?_
    refine (R_aload_n zf126_53 rfl zlt_12 rfl).trans ?_
    refine (R_getR zf126_54 zo_126 zfl_0_66 zk1_12 zft_9_0 zmr_12_0 rfl).trans ?_
    refine (R_iconst zf126_57 zw_2 rfl).trans ?_
    refine (R_ialdc zf126_58 zk_91 (by decide) rfl rfl).trans ?_
    refine (R_iload zf126_59 rfl rfl).trans ?_
    refine (R_callI zf126_61 zo_126 zsl_0_71 (by rw [zr_80]; rfl) zl_80 (Nat.le_of_ble_eq_true rfl) rfl rfl (Nat.le_of_ble_eq_true rfl) (Nat.le_of_ble_eq_true rfl) (es := [.inl (h 91 1), .inl (h 91 2), .inl x3]) rfl rfl).trans ?_
    refine congrArg (cI _) (funext fun a3_ => funext fun h2_ => ?_)
    refine (R_istore (ls' := [.inr (.inr (.inl 8)), .inr (.inr (.inl 12)), .inl x0, .inl x1, .inl x2, .inl x3, .inl a3_, z5, z6, z7]) zf126_64 (Nat.le_of_ble_eq_true rfl) rfl rfl).trans ?_
    refine (R_iconst zf126_66 zw_1 rfl).trans ?_
    refine (R_istore (ls' := [.inr (.inr (.inl 8)), .inr (.inr (.inl 12)), .inl x0, .inl x1, .inl x2, .inl x3, .inl a3_, .inl 1, z6, z7]) zf126_67 (Nat.le_of_ble_eq_true rfl) rfl rfl).trans ?_
    rfl
-- CannonPost$Paths.trace(LCannonPost$State;II)V at 62
theorem q128_62 (d : Nat) (x0 : Int) (z1 : MV) (hz1 : cat z1 = 1) (x2 : Int) (x3 : Int) (x4 : Int) (z5 : MV) (hz5 : cat z5 = 1) (h : MH) : Run (d + 1) 128 62 [.inr (.inr (.inl 9)), .inr (.inr (.inl 12)), .inl x0, z1, .inl x2, .inl x3, .inl x4, z5] [] h = (if (h 2 3) ≤ x4 then Run (d + 1) 128 47 [.inr (.inr (.inl 9)), .inr (.inr (.inl 12)), .inl x0, z1, .inl x2, .inl (wI (x3 + 1)), .inl x4, z5] [] h else (if 0 ≤ x3 ∧ x3 < 8 then (if (h 40 x3.toNat) = (-1) then Run (d + 1) 128 97 [.inr (.inr (.inl 9)), .inr (.inr (.inl 12)), .inl x0, z1, .inl x2, .inl x3, .inl x4, z5] [] h else (if 0 ≤ x3 ∧ x3 < 8 then (if ¬ (h 40 x3.toNat) = x2 then Run (d + 1) 128 47 [.inr (.inr (.inl 9)), .inr (.inr (.inl 12)), .inl x0, z1, .inl x2, .inl (wI (x3 + 1)), .inl x4, z5] [] h else Run (d + 1) 128 97 [.inr (.inr (.inl 9)), .inr (.inr (.inl 12)), .inl x0, z1, .inl x2, .inl x3, .inl x4, z5] [] h) else none)) else none)) := by
  refine (R_iload zf128_62 rfl rfl).trans ?_
  refine (R_aload_n zf128_64 rfl zlt_9 rfl).trans ?_
  refine (R_getR zf128_65 zo_128 zfl_7_29 zk1_9 zft_7_5 zmr_9_5 rfl).trans ?_
  refine (R_getI zf128_68 zo_128 zfl_7_43 zk1_2 zft_5_3 rfl).trans ?_
  refine (R_icmp_ge (t := 173) zf128_71 rfl rfl).trans ?_
  refine ite_congr rfl (fun c1_ => ?_) (fun c1_ => ?_)
  · refine (R_iinc (ls' := [.inr (.inr (.inl 9)), .inr (.inr (.inl 12)), .inl x0, z1, .inl x2, .inl (wI (x3 + 1)), .inl x4, z5]) zf128_173 rfl rfl rfl).trans ?_
    refine (R_goto (t := 47) zf128_176 rfl).trans ?_
    rfl
  · refine (R_aload_n zf128_74 rfl zlt_9 rfl).trans ?_
    refine (R_getR zf128_75 zo_128 zfl_7_11 zk1_9 zft_7_0 zmr_9_0 rfl).trans ?_
    refine (R_iload zf128_78 rfl rfl).trans ?_
    refine (R_iald zf128_80 zk_40 rfl).trans ?_
    refine ite_congr rfl (fun c2_ => ?_) (fun _ => rfl)
    refine (R_iconst zf128_81 zw_m1 rfl).trans ?_
    refine (R_icmp_eq (t := 97) zf128_82 rfl rfl).trans ?_
    refine ite_congr rfl (fun c3_ => ?_) (fun c3_ => ?_)
    · rfl
    · refine (R_aload_n zf128_85 rfl zlt_9 rfl).trans ?_
      refine (R_getR zf128_86 zo_128 zfl_7_11 zk1_9 zft_7_0 zmr_9_0 rfl).trans ?_
      refine (R_iload zf128_89 rfl rfl).trans ?_
      refine (R_iald zf128_91 zk_40 rfl).trans ?_
      refine ite_congr rfl (fun c4_ => ?_) (fun _ => rfl)
      refine (R_iload zf128_92 rfl rfl).trans ?_
      refine (R_icmp_ne (t := 173) zf128_94 rfl rfl).trans ?_
      refine ite_congr rfl (fun c5_ => ?_) (fun c5_ => ?_)
      · refine (R_iinc (ls' := [.inr (.inr (.inl 9)), .inr (.inr (.inl 12)), .inl x0, z1, .inl x2, .inl (wI (x3 + 1)), .inl x4, z5]) zf128_173 rfl rfl rfl).trans ?_
        refine (R_goto (t := 47) zf128_176 rfl).trans ?_
        rfl
      · rfl
-- CannonPost$Paths.firstShot(LCannonPost$State;III)I at 37
theorem q133_37 (d : Nat) (x0 : Int) (x1 : Int) (x2 : Int) (x3 : Int) (x4 : Int) (x5 : Int) (z6 : MV) (hz6 : cat z6 = 1) (h : MH) : Run (d + 1) 133 37 [.inr (.inr (.inl 9)), .inr (.inr (.inl 12)), .inl x0, .inl x1, .inl x2, .inl x3, .inl x4, .inl x5, z6] [] h = (if (h 2 4) ≤ x5 then some (some (.inl (-1)), h) else Run (d + 1) 133 53 [.inr (.inr (.inl 9)), .inr (.inr (.inl 12)), .inl x0, .inl x1, .inl x2, .inl x3, .inl x4, .inl x5, .inl x3] [] h) := by
  refine (R_iload zf133_37 rfl rfl).trans ?_
  refine (R_aload_n zf133_39 rfl zlt_9 rfl).trans ?_
  refine (R_getR zf133_40 zo_133 zfl_7_29 zk1_9 zft_7_5 zmr_9_5 rfl).trans ?_
  refine (R_getI zf133_43 zo_133 zfl_7_71 zk1_2 zft_5_4 rfl).trans ?_
  refine (R_icmp_ge (t := 137) zf133_46 rfl rfl).trans ?_
  refine ite_congr rfl (fun c1_ => ?_) (fun c1_ => ?_)
  · refine (R_iconst zf133_137 zw_m1 rfl).trans ?_
    exact R_ireturn_i zf133_138 zr_133
  · refine (R_iload zf133_49 rfl rfl).trans ?_
    refine (R_istore (ls' := [.inr (.inr (.inl 9)), .inr (.inr (.inl 12)), .inl x0, .inl x1, .inl x2, .inl x3, .inl x4, .inl x5, .inl x3]) zf133_51 (Nat.le_of_ble_eq_true rfl) rfl rfl).trans ?_
    rfl
-- CannonPost$Paths.link(LCannonPost$State;)V at 36
theorem q139_36 (d : Nat) (x0 : Int) (x1 : Int) (x2 : Int) (h : MH) : Run (d + 1) 139 36 [.inr (.inr (.inl 9)), .inr (.inr (.inl 12)), .inl x0, .inl x1, .inl x2] [] h = (if (h 2 3) ≤ x2 then Run (d + 1) 139 22 [.inr (.inr (.inl 9)), .inr (.inr (.inl 12)), .inl x0, .inl (wI (x1 + 1)), .inl x2] [] h else (if 0 ≤ x0 ∧ x0 < 8 then (cI (Run d 125 0 [.inr (.inr (.inl 8)), .inr (.inr (.inl 12)), .inl x1, .inl x0, .inl x2, vU, vU] [] h) fun a4_ h3_ => (if a4_ = (-1) then (if 0 ≤ x0 ∧ x0 < 8 then Run (d + 1) 139 36 [.inr (.inr (.inl 9)), .inr (.inr (.inl 12)), .inl x0, .inl x1, .inl (wI (x2 + 1))] [] (up h3_ 43 x0.toNat (iOr (h 43 x0.toNat) 0)) else none) else (if 0 ≤ x0 ∧ x0 < 8 then Run (d + 1) 139 36 [.inr (.inr (.inl 9)), .inr (.inr (.inl 12)), .inl x0, .inl x1, .inl (wI (x2 + 1))] [] (up h3_ 43 x0.toNat (iOr (h 43 x0.toNat) (iShl 1 x2))) else none))) else none)) := by
  refine (R_iload zf139_36 rfl rfl).trans ?_
  refine (R_aload_n zf139_38 rfl zlt_9 rfl).trans ?_
  refine (R_getR zf139_39 zo_139 zfl_7_29 zk1_9 zft_7_5 zmr_9_5 rfl).trans ?_
  refine (R_getI zf139_42 zo_139 zfl_7_43 zk1_2 zft_5_3 rfl).trans ?_
  refine (R_icmp_ge (t := 87) zf139_45 rfl rfl).trans ?_
  refine ite_congr rfl (fun c1_ => ?_) (fun c1_ => ?_)
  · refine (R_iinc (ls' := [.inr (.inr (.inl 9)), .inr (.inr (.inl 12)), .inl x0, .inl (wI (x1 + 1)), .inl x2]) zf139_87 rfl rfl rfl).trans ?_
    refine (R_goto (t := 22) zf139_90 rfl).trans ?_
    rfl
  · refine (R_aload_n zf139_48 rfl zlt_9 rfl).trans ?_
    refine (R_getR zf139_49 zo_139 zfl_7_23 zk1_9 zft_7_3 zmr_9_3 rfl).trans ?_
    refine (R_iload_n zf139_52 rfl rfl).trans ?_
    refine (R_dup2 zf139_53 rfl rfl rfl).trans ?_
    refine (R_iald zf139_54 zk_43 rfl).trans ?_
    refine ite_congr rfl (fun c2_ => ?_) (fun _ => rfl)
    refine (R_aload_n zf139_55 rfl zlt_9 rfl).trans ?_
    refine (R_getR zf139_56 zo_139 zfl_7_33 zk1_9 zft_7_6 zmr_9_6 rfl).trans ?_
    refine (R_aload_n zf139_59 rfl zlt_12 rfl).trans ?_
    refine (R_iload_n zf139_60 rfl rfl).trans ?_
    refine (R_iload_n zf139_61 rfl rfl).trans ?_
    refine (R_iload zf139_62 rfl rfl).trans ?_
    refine (R_vcallI zf139_64 zo_139 zvl_7_47 (by rw [zr_125]; rfl) zl_125 (Nat.le_of_ble_eq_true rfl) rfl rfl (Nat.le_of_ble_eq_true rfl) (Nat.le_of_ble_eq_true rfl) (es := [.inr (.inr (.inl 8)), .inr (.inr (.inl 12)), .inl x1, .inl x0, .inl x2, vU, vU]) rfl rfl zk1_8 zo_125).trans ?_
    refine congrArg (cI _) (funext fun a4_ => funext fun h3_ => ?_)
    refine (R_iconst zf139_67 zw_m1 rfl).trans ?_
    refine (R_icmp_eq (t := 78) zf139_68 rfl rfl).trans ?_
    refine ite_congr rfl (fun c5_ => ?_) (fun c5_ => ?_)
    · refine (R_iconst zf139_78 zw_0 rfl).trans ?_
      refine (R_ior zf139_79 rfl).trans ?_
      refine (R_iast zf139_80 zk_43 rfl).trans ?_
      refine ite_congr rfl (fun c6_ => ?_) (fun _ => rfl)
      refine (R_iinc (ls' := [.inr (.inr (.inl 9)), .inr (.inr (.inl 12)), .inl x0, .inl x1, .inl (wI (x2 + 1))]) zf139_81 rfl rfl rfl).trans ?_
      refine (R_goto (t := 36) zf139_84 rfl).trans ?_
      rfl
    · refine (R_iconst zf139_71 zw_1 rfl).trans ?_
      refine (R_iload zf139_72 rfl rfl).trans ?_
      refine (R_ishl zf139_74 rfl).trans ?_
      refine (R_goto (t := 79) zf139_75 rfl).trans ?_
      refine (R_ior zf139_79 rfl).trans ?_
      refine (R_iast zf139_80 zk_43 rfl).trans ?_
      refine ite_congr rfl (fun c7_ => ?_) (fun _ => rfl)
      refine (R_iinc (ls' := [.inr (.inr (.inl 9)), .inr (.inr (.inl 12)), .inl x0, .inl x1, .inl (wI (x2 + 1))]) zf139_81 rfl rfl rfl).trans ?_
      refine (R_goto (t := 36) zf139_84 rfl).trans ?_
      rfl
-- CannonPost$Guesses.explains(I)Z at 2
theorem q151_2 (d : Nat) (x0 : Int) (x1 : Int) (z2 : MV) (hz2 : cat z2 = 1) (z3 : MV) (hz3 : cat z3 = 1) (z4 : MV) (hz4 : cat z4 = 1) (z5 : MV) (hz5 : cat z5 = 1) (h : MH) : Run (d + 1) 151 2 [.inr (.inr (.inl 10)), .inl x0, .inl x1, z2, z3, z4, z5] [] h = (if (h 10 2) ≤ x1 then some (some (.inl 1), h) else (if 0 ≤ (wI ((wI (x1 * 5)) + 1)) ∧ (wI ((wI (x1 * 5)) + 1)) < 50 then (if 0 ≤ (wI ((wI (x1 * 5)) + 3)) ∧ (wI ((wI (x1 * 5)) + 3)) < 50 then (if 0 ≤ (wI (x1 * 5)) ∧ (wI (x1 * 5)) < 50 then (if 0 ≤ (wI ((wI (x1 * 5)) + 2)) ∧ (wI ((wI (x1 * 5)) + 2)) < 50 then (cI (Run d 152 0 [.inr (.inr (.inl 10)), .inl x0, .inl (h 46 (wI (x1 * 5)).toNat), .inl (h 46 (wI ((wI (x1 * 5)) + 1)).toNat), .inl (h 46 (wI ((wI (x1 * 5)) + 2)).toNat), .inl (h 46 (wI ((wI (x1 * 5)) + 3)).toNat)] [] h) fun a7_ h6_ => (cI (Run d 18 0 [.inr (.inr (.inl 2)), .inl (h 46 (wI ((wI (x1 * 5)) + 1)).toNat)] [] h6_) fun a9_ h8_ => (cI (Run d 86 0 [.inl a9_, .inl a7_, .inl (h 46 (wI ((wI (x1 * 5)) + 3)).toNat)] [] h8_) fun a11_ h10_ => (if 0 ≤ (wI ((wI (x1 * 5)) + 4)) ∧ (wI ((wI (x1 * 5)) + 4)) < 50 then (if a11_ = (h10_ 46 (wI ((wI (x1 * 5)) + 4)).toNat) then Run (d + 1) 151 2 [.inr (.inr (.inl 10)), .inl x0, .inl (wI (x1 + 1)), .inl (wI (x1 * 5)), .inl (h 46 (wI ((wI (x1 * 5)) + 1)).toNat), .inl (h 46 (wI ((wI (x1 * 5)) + 3)).toNat), .inl a7_] [] h10_ else some (some (.inl 0), h10_)) else none)))) else none) else none) else none) else none)) := by
  refine (R_iload_n zf151_2 rfl rfl).trans ?_
  refine (R_aload_n zf151_3 rfl zlt_10 rfl).trans ?_
  refine (R_getI zf151_4 zo_151 zfl_1_38 zk1_10 zft_1_2 rfl).trans ?_
  refine (R_icmp_ge (t := 94) zf151_7 rfl rfl).trans ?_
  refine ite_congr rfl (fun c1_ => ?_) (fun c1_ => ?_)
  · refine (R_iconst zf151_94 zw_1 rfl).trans ?_
    exact R_ireturn zf151_95 (by rw [zr_151]; rfl)
  · refine (R_iload_n zf151_10 rfl rfl).trans ?_
    refine (R_iconst zf151_11 zw_5 rfl).trans ?_
    refine (R_imul zf151_12 rfl).trans ?_
    refine (R_istore_n (ls' := [.inr (.inr (.inl 10)), .inl x0, .inl x1, .inl (wI (x1 * 5)), z3, z4, z5]) zf151_13 (Nat.le_of_ble_eq_true rfl) rfl rfl).trans ?_
    refine (R_aload_n zf151_14 rfl zlt_10 rfl).trans ?_
    refine (R_getR zf151_15 zo_151 zfl_1_15 zk1_10 zft_1_4 zmr_10_4 rfl).trans ?_
    refine (R_iload_n zf151_18 rfl rfl).trans ?_
    refine (R_iconst zf151_19 zw_1 rfl).trans ?_
    refine (R_iadd zf151_20 rfl).trans ?_
    refine (R_iald zf151_21 zk_46 rfl).trans ?_
    refine ite_congr rfl (fun c2_ => ?_) (fun _ => rfl)
    refine (R_istore (ls' := [.inr (.inr (.inl 10)), .inl x0, .inl x1, .inl (wI (x1 * 5)), .inl (h 46 (wI ((wI (x1 * 5)) + 1)).toNat), z4, z5]) zf151_22 (Nat.le_of_ble_eq_true rfl) rfl rfl).trans ?_
    refine (R_aload_n zf151_24 rfl zlt_10 rfl).trans ?_
    refine (R_getR zf151_25 zo_151 zfl_1_15 zk1_10 zft_1_4 zmr_10_4 rfl).trans ?_
    refine (R_iload_n zf151_28 rfl rfl).trans ?_
    refine (R_iconst zf151_29 zw_3 rfl).trans ?_
    refine (R_iadd zf151_30 rfl).trans ?_
    refine (R_iald zf151_31 zk_46 rfl).trans ?_
    refine ite_congr rfl (fun c3_ => ?_) (fun _ => rfl)
    refine (R_istore (ls' := [.inr (.inr (.inl 10)), .inl x0, .inl x1, .inl (wI (x1 * 5)), .inl (h 46 (wI ((wI (x1 * 5)) + 1)).toNat), .inl (h 46 (wI ((wI (x1 * 5)) + 3)).toNat), z5]) zf151_32 (Nat.le_of_ble_eq_true rfl) rfl rfl).trans ?_
    refine (R_aload_n zf151_34 rfl zlt_10 rfl).trans ?_
    refine (R_iload_n zf151_35 rfl rfl).trans ?_
    refine (R_aload_n zf151_36 rfl zlt_10 rfl).trans ?_
    refine (R_getR zf151_37 zo_151 zfl_1_15 zk1_10 zft_1_4 zmr_10_4 rfl).trans ?_
    refine (R_iload_n zf151_40 rfl rfl).trans ?_
    refine (R_iald zf151_41 zk_46 rfl).trans ?_
    refine ite_congr rfl (fun c4_ => ?_) (fun _ => rfl)
    refine (R_iload zf151_42 rfl rfl).trans ?_
    refine (R_aload_n zf151_44 rfl zlt_10 rfl).trans ?_
    refine (R_getR zf151_45 zo_151 zfl_1_15 zk1_10 zft_1_4 zmr_10_4 rfl).trans ?_
    refine (R_iload_n zf151_48 rfl rfl).trans ?_
    refine (R_iconst zf151_49 zw_2 rfl).trans ?_
    refine (R_iadd zf151_50 rfl).trans ?_
    refine (R_iald zf151_51 zk_46 rfl).trans ?_
    refine ite_congr rfl (fun c5_ => ?_) (fun _ => rfl)
    refine (R_iload zf151_52 rfl rfl).trans ?_
    refine (R_vcallI zf151_54 zo_151 zvl_1_52 (by rw [zr_152]; rfl) zl_152 (Nat.le_of_ble_eq_true rfl) rfl rfl (Nat.le_of_ble_eq_true rfl) (Nat.le_of_ble_eq_true rfl) (es := [.inr (.inr (.inl 10)), .inl x0, .inl (h 46 (wI (x1 * 5)).toNat), .inl (h 46 (wI ((wI (x1 * 5)) + 1)).toNat), .inl (h 46 (wI ((wI (x1 * 5)) + 2)).toNat), .inl (h 46 (wI ((wI (x1 * 5)) + 3)).toNat)]) rfl rfl zk1_10 zo_152).trans ?_
    refine congrArg (cI _) (funext fun a7_ => funext fun h6_ => ?_)
    refine (R_istore (ls' := [.inr (.inr (.inl 10)), .inl x0, .inl x1, .inl (wI (x1 * 5)), .inl (h 46 (wI ((wI (x1 * 5)) + 1)).toNat), .inl (h 46 (wI ((wI (x1 * 5)) + 3)).toNat), .inl a7_]) zf151_57 (Nat.le_of_ble_eq_true rfl) rfl rfl).trans ?_
    refine (R_aload_n zf151_59 rfl zlt_10 rfl).trans ?_
    refine (R_getR zf151_60 zo_151 zfl_1_30 zk1_10 zft_1_8 zmr_10_8 rfl).trans ?_
    refine (R_iload zf151_63 rfl rfl).trans ?_
    refine (R_vcallI zf151_65 zo_151 zvl_1_56 (by rw [zr_18]; rfl) zl_18 (Nat.le_of_ble_eq_true rfl) rfl rfl (Nat.le_of_ble_eq_true rfl) (Nat.le_of_ble_eq_true rfl) (es := [.inr (.inr (.inl 2)), .inl (h 46 (wI ((wI (x1 * 5)) + 1)).toNat)]) rfl rfl zk1_2 zo_18).trans ?_
    refine congrArg (cI _) (funext fun a9_ => funext fun h8_ => ?_)
    refine (R_iload zf151_68 rfl rfl).trans ?_
    refine (R_iload zf151_70 rfl rfl).trans ?_
    refine (R_callI zf151_72 zo_151 zsl_1_62 (by rw [zr_86]; rfl) zl_86 (Nat.le_of_ble_eq_true rfl) rfl rfl (Nat.le_of_ble_eq_true rfl) (Nat.le_of_ble_eq_true rfl) (es := [.inl a9_, .inl a7_, .inl (h 46 (wI ((wI (x1 * 5)) + 3)).toNat)]) rfl rfl).trans ?_
    refine congrArg (cI _) (funext fun a11_ => funext fun h10_ => ?_)
    refine (R_aload_n zf151_75 rfl zlt_10 rfl).trans ?_
    refine (R_getR zf151_76 zo_151 zfl_1_15 zk1_10 zft_1_4 zmr_10_4 rfl).trans ?_
    refine (R_iload_n zf151_79 rfl rfl).trans ?_
    refine (R_iconst zf151_80 zw_4 rfl).trans ?_
    refine (R_iadd zf151_81 rfl).trans ?_
    refine (R_iald zf151_82 zk_46 rfl).trans ?_
    refine ite_congr rfl (fun c12_ => ?_) (fun _ => rfl)
    refine (R_icmp_eq (t := 88) zf151_83 rfl rfl).trans ?_
    refine ite_congr rfl (fun c13_ => ?_) (fun c13_ => ?_)
    · refine (R_iinc (ls' := [.inr (.inr (.inl 10)), .inl x0, .inl (wI (x1 + 1)), .inl (wI (x1 * 5)), .inl (h 46 (wI ((wI (x1 * 5)) + 1)).toNat), .inl (h 46 (wI ((wI (x1 * 5)) + 3)).toNat), .inl a7_]) zf151_88 rfl rfl rfl).trans ?_
      refine (R_goto (t := 2) zf151_91 rfl).trans ?_
      rfl
    · refine (R_iconst zf151_86 zw_0 rfl).trans ?_
      exact R_ireturn zf151_87 (by rw [zr_151]; rfl)
-- CannonPost$Guesses.mostTogether(IIII)I at 0
theorem q155_0 (d : Nat) (x0 : Int) (x1 : Int) (x2 : Int) (x3 : Int) (h : MH) : Run (d + 1) 155 0 [.inr (.inr (.inl 10)), .inl x0, .inl x1, .inl x2, .inl x3, vU, vU, vU] [] h = (cV (Run d 48 0 [.inr (.inr (.inl 47)), .inl 0, vU, vU] [] h) fun h1_ => Run (d + 1) 155 14 [.inr (.inr (.inl 10)), .inl x0, .inl x1, .inl x2, .inl x3, .inl 0, .inl 0, vU] [] h1_) := by
  refine (R_aload_n zf155_0 rfl zlt_10 rfl).trans ?_
  refine (R_getR zf155_1 zo_155 zfl_1_20 zk1_10 zft_1_5 zmr_10_5 rfl).trans ?_
  refine (R_iconst zf155_4 zw_0 rfl).trans ?_
  refine (R_callV zf155_5 zo_155 zsl_1_76 zr_48 zl_48 (Nat.le_of_ble_eq_true rfl) rfl rfl (Nat.le_of_ble_eq_true rfl) (Nat.le_of_ble_eq_true rfl) (es := [.inr (.inr (.inl 47)), .inl 0, vU, vU]) rfl rfl).trans ?_
  refine congrArg (cV _) (funext fun h1_ => ?_)
  refine (R_iconst zf155_8 zw_0 rfl).trans ?_
  refine (R_istore (ls' := [.inr (.inr (.inl 10)), .inl x0, .inl x1, .inl x2, .inl x3, .inl 0, vU, vU]) zf155_9 (Nat.le_of_ble_eq_true rfl) rfl rfl).trans ?_
  refine (R_iconst zf155_11 zw_0 rfl).trans ?_
  refine (R_istore (ls' := [.inr (.inr (.inl 10)), .inl x0, .inl x1, .inl x2, .inl x3, .inl 0, .inl 0, vU]) zf155_12 (Nat.le_of_ble_eq_true rfl) rfl rfl).trans ?_
  rfl
-- CannonPost$Guesses.product(I)J at 5
theorem q161_5 (d : Nat) (x0 : Int) (x1 : Int) (z2 : MV) (hz2 : cat z2 = 1) (x3 : Int) (z4 : MV) (hz4 : cat z4 = 1) (h : MH) : Run d 161 5 [.inr (.inr (.inl 10)), .inl x0, .inr (.inl x1), z2, .inl x3, z4] [] h = (if (h 10 3) ≤ x3 then some (some (.inr (.inl x1)), h) else (if 0 ≤ x3 ∧ x3 < 12 then (if ¬ (h 48 x3.toNat) = x0 then Run d 161 30 [.inr (.inr (.inl 10)), .inl x0, .inr (.inl x1), z2, .inl x3, z4] [.inl 0] h else Run d 161 30 [.inr (.inr (.inl 10)), .inl x0, .inr (.inl x1), z2, .inl x3, z4] [.inl 1] h) else none)) := by
  refine (R_iload zf161_5 rfl rfl).trans ?_
  refine (R_aload_n zf161_7 rfl zlt_10 rfl).trans ?_
  refine (R_getI zf161_8 zo_161 zfl_1_42 zk1_10 zft_1_3 rfl).trans ?_
  refine (R_icmp_ge (t := 85) zf161_11 rfl rfl).trans ?_
  refine ite_congr rfl (fun c1_ => ?_) (fun c1_ => ?_)
  · refine (R_lload_n zf161_85 rfl rfl).trans ?_
    exact R_lreturn zf161_86 zr_161
  · refine (R_aload_n zf161_14 rfl zlt_10 rfl).trans ?_
    refine (R_getR zf161_15 zo_161 zfl_1_23 zk1_10 zft_1_6 zmr_10_6 rfl).trans ?_
    refine (R_iload zf161_18 rfl rfl).trans ?_
    refine (R_iald zf161_20 zk_48 rfl).trans ?_
    refine ite_congr rfl (fun c2_ => ?_) (fun _ => rfl)
    refine (R_iload_n zf161_21 rfl rfl).trans ?_
    refine (R_icmp_ne (t := 29) zf161_22 rfl rfl).trans ?_
    refine ite_congr rfl (fun c3_ => ?_) (fun c3_ => ?_)
    · refine (R_iconst zf161_29 zw_0 rfl).trans ?_
      rfl
    · refine (R_iconst zf161_25 zw_1 rfl).trans ?_
      refine (R_goto (t := 30) zf161_26 rfl).trans ?_
      rfl
-- CannonPostModel.look()I at 0
theorem q188_0 (d : Nat) (h : MH) : Run d 188 0 [.inr (.inr (.inl 97))] [] h = (if (h 97 9) ≤ (h 97 10) then Run d 188 43 [.inr (.inr (.inl 97))] [] h else (if h 97 5 = 98 then (if 0 ≤ (wI ((h 97 8) + (h 97 10))) ∧ (wI ((h 97 8) + (h 97 10))) < 240 then (if ¬ (h 98 (wI ((h 97 8) + (h 97 10))).toNat) = 32 then Run d 188 43 [.inr (.inr (.inl 97))] [] h else Run d 188 0 [.inr (.inr (.inl 97))] [] (up h 97 10 (wI ((h 97 10) + 1)))) else none) else (if h 97 5 = 99 then (if 0 ≤ (wI ((h 97 8) + (h 97 10))) ∧ (wI ((h 97 8) + (h 97 10))) < 960 then (if ¬ (h 99 (wI ((h 97 8) + (h 97 10))).toNat) = 32 then Run d 188 43 [.inr (.inr (.inl 97))] [] h else Run d 188 0 [.inr (.inr (.inl 97))] [] (up h 97 10 (wI ((h 97 10) + 1)))) else none) else Run d 188 12 [.inr (.inr (.inl 97))] [.inr (.inr (.inl 97))] h))) := by
  refine (R_aload_n zf188_0 rfl zlt_97 rfl).trans ?_
  refine (R_getI zf188_1 zo_188 zfl_12_119 zk1_97 zft_12_10 rfl).trans ?_
  refine (R_aload_n zf188_4 rfl zlt_97 rfl).trans ?_
  refine (R_getI zf188_5 zo_188 zfl_12_122 zk1_97 zft_12_9 rfl).trans ?_
  refine (R_icmp_ge (t := 43) zf188_8 rfl rfl).trans ?_
  refine ite_congr rfl (fun c1_ => ?_) (fun c1_ => ?_)
  · rfl
  · refine (R_aload_n zf188_11 rfl zlt_97 rfl).trans ?_
    refine (switch_if (c := h 97 5 = 98) (fun c2_ => ?_) (fun c2_ => ?_))
    · refine (R_getMc (b := 98) zf188_12 zo_188 zfl_12_23 zk1_97 zft_12_5 c2_ rfl rfl).trans ?_
      refine (R_aload_n zf188_15 rfl zlt_97 rfl).trans ?_
      refine (R_getI zf188_16 zo_188 zfl_12_125 zk1_97 zft_12_8 rfl).trans ?_
      refine (R_aload_n zf188_19 rfl zlt_97 rfl).trans ?_
      refine (R_getI zf188_20 zo_188 zfl_12_119 zk1_97 zft_12_10 rfl).trans ?_
      refine (R_iadd zf188_23 rfl).trans ?_
      refine (R_bald zf188_24 zk_98 rfl).trans ?_
      refine ite_congr rfl (fun c3_ => ?_) (fun _ => rfl)
      refine (R_bipush zf188_25 zb_32 rfl).trans ?_
      refine (R_icmp_ne (t := 43) zf188_27 rfl rfl).trans ?_
      refine ite_congr rfl (fun c4_ => ?_) (fun c4_ => ?_)
      · rfl
      · refine (R_aload_n zf188_30 rfl zlt_97 rfl).trans ?_
        refine (R_dup zf188_31 rfl rfl).trans ?_
        refine (R_getI zf188_32 zo_188 zfl_12_119 zk1_97 zft_12_10 rfl).trans ?_
        refine (R_iconst zf188_35 zw_1 rfl).trans ?_
        refine (R_iadd zf188_36 rfl).trans ?_
        refine (R_putI zf188_37 zo_188 zfl_12_119 zk1_97 zft_12_10 rfl).trans ?_
        refine (R_goto (t := 0) zf188_40 rfl).trans ?_
        rfl
    refine (switch_if (c := h 97 5 = 99) (fun c5_ => ?_) (fun c5_ => ?_))
    · refine (R_getMc (b := 99) zf188_12 zo_188 zfl_12_23 zk1_97 zft_12_5 c5_ rfl rfl).trans ?_
      refine (R_aload_n zf188_15 rfl zlt_97 rfl).trans ?_
      refine (R_getI zf188_16 zo_188 zfl_12_125 zk1_97 zft_12_8 rfl).trans ?_
      refine (R_aload_n zf188_19 rfl zlt_97 rfl).trans ?_
      refine (R_getI zf188_20 zo_188 zfl_12_119 zk1_97 zft_12_10 rfl).trans ?_
      refine (R_iadd zf188_23 rfl).trans ?_
      refine (R_bald zf188_24 zk_99 rfl).trans ?_
      refine ite_congr rfl (fun c6_ => ?_) (fun _ => rfl)
      refine (R_bipush zf188_25 zb_32 rfl).trans ?_
      refine (R_icmp_ne (t := 43) zf188_27 rfl rfl).trans ?_
      refine ite_congr rfl (fun c7_ => ?_) (fun c7_ => ?_)
      · rfl
      · refine (R_aload_n zf188_30 rfl zlt_97 rfl).trans ?_
        refine (R_dup zf188_31 rfl rfl).trans ?_
        refine (R_getI zf188_32 zo_188 zfl_12_119 zk1_97 zft_12_10 rfl).trans ?_
        refine (R_iconst zf188_35 zw_1 rfl).trans ?_
        refine (R_iadd zf188_36 rfl).trans ?_
        refine (R_putI zf188_37 zo_188 zfl_12_119 zk1_97 zft_12_10 rfl).trans ?_
        refine (R_goto (t := 0) zf188_40 rfl).trans ?_
        rfl
    rfl
-- CannonPostModel.fails()Z at 0
theorem q189_0 (d : Nat) (h : MH) : Run d 189 0 [.inr (.inr (.inl 97))] [] h = (if ¬ (h 97 11) = (-1) then some (some (.inl 0), h) else some (some (.inl 0), (up h 97 11 (h 97 10)))) := by
  refine (R_aload_n zf189_0 rfl zlt_97 rfl).trans ?_
  refine (R_getI zf189_1 zo_189 zfl_12_128 zk1_97 zft_12_11 rfl).trans ?_
  refine (R_iconst zf189_4 zw_m1 rfl).trans ?_
  refine (R_icmp_ne (t := 16) zf189_5 rfl rfl).trans ?_
  refine ite_congr rfl (fun c1_ => ?_) (fun c1_ => ?_)
  · refine (R_iconst zf189_16 zw_0 rfl).trans ?_
    exact R_ireturn zf189_17 (by rw [zr_189]; rfl)
  · refine (R_aload_n zf189_8 rfl zlt_97 rfl).trans ?_
    refine (R_aload_n zf189_9 rfl zlt_97 rfl).trans ?_
    refine (R_getI zf189_10 zo_189 zfl_12_119 zk1_97 zft_12_10 rfl).trans ?_
    refine (R_putI zf189_13 zo_189 zfl_12_128 zk1_97 zft_12_11 rfl).trans ?_
    refine (R_iconst zf189_16 zw_0 rfl).trans ?_
    exact R_ireturn zf189_17 (by rw [zr_189]; rfl)
-- CannonPostModel.readStep(I)V at 0
theorem q214_0 (d : Nat) (x0 : Int) (h : MH) : Run (d + 1) 214 0 [.inr (.inr (.inl 97)), .inl x0, vU, vU] [] h = (cI (Run d 188 0 [.inr (.inr (.inl 97))] [] h) fun a2_ h1_ => (cI (Run d 191 0 [.inr (.inr (.inl 130)), .inl a2_, vU] [] h1_) fun a4_ h3_ => (if ¬ a4_ = (-1) then (if 0 ≤ x0 ∧ x0 < 320 then (cI (Run d 215 0 [.inr (.inr (.inl 97)), .inl 9, vU] [] (up (up h3_ 97 10 (wI ((h3_ 97 10) + 1))) 108 x0.toNat a4_)) fun a8_ h7_ => (if 0 ≤ (wI (x0 + 1)) ∧ (wI (x0 + 1)) < 320 then (if 0 ≤ (wI (x0 + 2)) ∧ (wI (x0 + 2)) < 320 then (if 0 ≤ (wI (x0 + 3)) ∧ (wI (x0 + 3)) < 320 then (if ¬ ((up (up (up h7_ 108 (wI (x0 + 1)).toNat a8_) 108 (wI (x0 + 2)).toNat (-1)) 108 (wI (x0 + 3)).toNat (-1)) 97 11) = (-1) then some (none, (up (up (up h7_ 108 (wI (x0 + 1)).toNat a8_) 108 (wI (x0 + 2)).toNat (-1)) 108 (wI (x0 + 3)).toNat (-1))) else (if ¬ a4_ = 1 then (if ¬ a4_ = 3 then Run (d + 1) 214 104 [.inr (.inr (.inl 97)), .inl x0, .inl a4_, vU] [.inl 1, .inr (.inr (.inl 97)), .inl (wI (x0 + 2)), .inr (.inr (.inl 108))] (up (up (up h7_ 108 (wI (x0 + 1)).toNat a8_) 108 (wI (x0 + 2)).toNat (-1)) 108 (wI (x0 + 3)).toNat (-1)) else Run (d + 1) 214 104 [.inr (.inr (.inl 97)), .inl x0, .inl a4_, vU] [.inl 9, .inr (.inr (.inl 97)), .inl (wI (x0 + 2)), .inr (.inr (.inl 108))] (up (up (up h7_ 108 (wI (x0 + 1)).toNat a8_) 108 (wI (x0 + 2)).toNat (-1)) 108 (wI (x0 + 3)).toNat (-1))) else some (none, (up (up (up h7_ 108 (wI (x0 + 1)).toNat a8_) 108 (wI (x0 + 2)).toNat (-1)) 108 (wI (x0 + 3)).toNat (-1))))) else none) else none) else none)) else none) else (cI (Run d 189 0 [.inr (.inr (.inl 97))] [] h3_) fun a16_ h15_ => some (none, h15_))))) := by
  refine (R_ldc_wS zf214_0 zo_214 zcl_12_267 zrl_12_267 rfl).trans ?_
  refine (R_aload_n zf214_3 rfl zlt_97 rfl).trans ?_
  refine (R_vcallI zf214_4 zo_214 zvl_12_138 (by rw [zr_188]; rfl) zl_188 (Nat.le_of_ble_eq_true rfl) rfl rfl (Nat.le_of_ble_eq_true rfl) (Nat.le_of_ble_eq_true rfl) (es := [.inr (.inr (.inl 97))]) rfl rfl zk1_97 zo_188).trans ?_
  refine congrArg (cI _) (funext fun a2_ => funext fun h1_ => ?_)
  refine (R_callI zf214_7 zo_214 zsl_12_225 (by rw [zr_191]; rfl) zl_191 (Nat.le_of_ble_eq_true rfl) rfl rfl (Nat.le_of_ble_eq_true rfl) (Nat.le_of_ble_eq_true rfl) (es := [.inr (.inr (.inl 130)), .inl a2_, vU]) rfl rfl).trans ?_
  refine congrArg (cI _) (funext fun a4_ => funext fun h3_ => ?_)
  refine (R_istore_n (ls' := [.inr (.inr (.inl 97)), .inl x0, .inl a4_, vU]) zf214_10 (Nat.le_of_ble_eq_true rfl) rfl rfl).trans ?_
  refine (R_iload_n zf214_11 rfl rfl).trans ?_
  refine (R_iconst zf214_12 zw_m1 rfl).trans ?_
  refine (R_icmp_ne (t := 22) zf214_13 rfl rfl).trans ?_
  refine ite_congr rfl (fun c5_ => ?_) (fun c5_ => ?_)
  · refine (R_aload_n zf214_22 rfl zlt_97 rfl).trans ?_
    refine (R_dup zf214_23 rfl rfl).trans ?_
    refine (R_getI zf214_24 zo_214 zfl_12_119 zk1_97 zft_12_10 rfl).trans ?_
    refine (R_iconst zf214_27 zw_1 rfl).trans ?_
    refine (R_iadd zf214_28 rfl).trans ?_
    refine (R_putI zf214_29 zo_214 zfl_12_119 zk1_97 zft_12_10 rfl).trans ?_
    refine (R_aload_n zf214_32 rfl zlt_97 rfl).trans ?_
    refine (R_getR zf214_33 zo_214 zfl_12_55 zk1_97 zft_12_24 zmr_97_24 rfl).trans ?_
    refine (R_iload_n zf214_36 rfl rfl).trans ?_
    refine (R_iload_n zf214_37 rfl rfl).trans ?_
    refine (R_iast zf214_38 zk_108 rfl).trans ?_
    refine ite_congr rfl (fun c6_ => ?_) (fun _ => rfl)
    refine (R_aload_n zf214_39 rfl zlt_97 rfl).trans ?_
    refine (R_getR zf214_40 zo_214 zfl_12_55 zk1_97 zft_12_24 zmr_97_24 rfl).trans ?_
    refine (R_iload_n zf214_43 rfl rfl).trans ?_
    refine (R_iconst zf214_44 zw_1 rfl).trans ?_
    refine (R_iadd zf214_45 rfl).trans ?_
    refine (R_aload_n zf214_46 rfl zlt_97 rfl).trans ?_
    refine (R_bipush zf214_47 zb_9 rfl).trans ?_
    refine (R_vcallI zf214_49 zo_214 zvl_12_269 (by rw [zr_215]; rfl) zl_215 (Nat.le_of_ble_eq_true rfl) rfl rfl (Nat.le_of_ble_eq_true rfl) (Nat.le_of_ble_eq_true rfl) (es := [.inr (.inr (.inl 97)), .inl 9, vU]) rfl rfl zk1_97 zo_215).trans ?_
    refine congrArg (cI _) (funext fun a8_ => funext fun h7_ => ?_)
    refine (R_iast zf214_52 zk_108 rfl).trans ?_
    refine ite_congr rfl (fun c9_ => ?_) (fun _ => rfl)
    refine (R_aload_n zf214_53 rfl zlt_97 rfl).trans ?_
    refine (R_getR zf214_54 zo_214 zfl_12_55 zk1_97 zft_12_24 zmr_97_24 rfl).trans ?_
    refine (R_iload_n zf214_57 rfl rfl).trans ?_
    refine (R_iconst zf214_58 zw_2 rfl).trans ?_
    refine (R_iadd zf214_59 rfl).trans ?_
    refine (R_iconst zf214_60 zw_m1 rfl).trans ?_
    refine (R_iast zf214_61 zk_108 rfl).trans ?_
    refine ite_congr rfl (fun c10_ => ?_) (fun _ => rfl)
    refine (R_aload_n zf214_62 rfl zlt_97 rfl).trans ?_
    refine (R_getR zf214_63 zo_214 zfl_12_55 zk1_97 zft_12_24 zmr_97_24 rfl).trans ?_
    refine (R_iload_n zf214_66 rfl rfl).trans ?_
    refine (R_iconst zf214_67 zw_3 rfl).trans ?_
    refine (R_iadd zf214_68 rfl).trans ?_
    refine (R_iconst zf214_69 zw_m1 rfl).trans ?_
    refine (R_iast zf214_70 zk_108 rfl).trans ?_
    refine ite_congr rfl (fun c11_ => ?_) (fun _ => rfl)
    refine (R_aload_n zf214_71 rfl zlt_97 rfl).trans ?_
    refine (R_getI zf214_72 zo_214 zfl_12_128 zk1_97 zft_12_11 rfl).trans ?_
    refine (R_iconst zf214_75 zw_m1 rfl).trans ?_
    refine (R_icmp_ne (t := 84) zf214_76 rfl rfl).trans ?_
    refine ite_congr rfl (fun c12_ => ?_) (fun c12_ => ?_)
    · exact R_return zf214_84 zr_214
    · refine (R_iload_n zf214_79 rfl rfl).trans ?_
      refine (R_iconst zf214_80 zw_1 rfl).trans ?_
      refine (R_icmp_ne (t := 85) zf214_81 rfl rfl).trans ?_
      refine ite_congr rfl (fun c13_ => ?_) (fun c13_ => ?_)
      · refine (R_aload_n zf214_85 rfl zlt_97 rfl).trans ?_
        refine (R_getR zf214_86 zo_214 zfl_12_55 zk1_97 zft_12_24 zmr_97_24 rfl).trans ?_
        refine (R_iload_n zf214_89 rfl rfl).trans ?_
        refine (R_iconst zf214_90 zw_2 rfl).trans ?_
        refine (R_iadd zf214_91 rfl).trans ?_
        refine (R_aload_n zf214_92 rfl zlt_97 rfl).trans ?_
        refine (R_iload_n zf214_93 rfl rfl).trans ?_
        refine (R_iconst zf214_94 zw_3 rfl).trans ?_
        refine (R_icmp_ne (t := 103) zf214_95 rfl rfl).trans ?_
        refine ite_congr rfl (fun c14_ => ?_) (fun c14_ => ?_)
        · refine (R_iconst zf214_103 zw_1 rfl).trans ?_
          rfl
        · refine (R_bipush zf214_98 zb_9 rfl).trans ?_
          refine (R_goto (t := 104) zf214_100 rfl).trans ?_
          rfl
      · exact R_return zf214_84 zr_214
  · refine (R_aload_n zf214_16 rfl zlt_97 rfl).trans ?_
    refine (R_vcallI zf214_17 zo_214 zvl_12_134 (by rw [zr_189]; rfl) zl_189 (Nat.le_of_ble_eq_true rfl) rfl rfl (Nat.le_of_ble_eq_true rfl) (Nat.le_of_ble_eq_true rfl) (es := [.inr (.inr (.inl 97))]) rfl rfl zk1_97 zo_189).trans ?_
    refine congrArg (cI _) (funext fun a16_ => funext fun h15_ => ?_)
    refine (R_pop zf214_20 rfl rfl).trans ?_
    exact R_return zf214_21 zr_214
-- CannonPostModel.readPlan()V at 57
theorem q213_57 (d : Nat) (x0 : Int) (z1 : MV) (hz1 : cat z1 = 1) (y2 : Int) (h : MH) : Run (d + 1) 213 57 [.inr (.inr (.inl 97)), .inl x0, z1] [.inl y2] h = (if y2 = 0 then (if y2 = 0 then Run (d + 1) 213 17 [.inr (.inr (.inl 97)), .inl x0, .inl y2] [] h else Run (d + 1) 213 17 [.inr (.inr (.inl 97)), .inl x0, .inl y2] [] (up h 97 10 (wI ((h 97 10) + 1)))) else (if ¬ x0 = 16 then (if y2 = 0 then Run (d + 1) 213 17 [.inr (.inr (.inl 97)), .inl x0, .inl y2] [] h else Run (d + 1) 213 17 [.inr (.inr (.inl 97)), .inl x0, .inl y2] [] (up h 97 10 (wI ((h 97 10) + 1)))) else (cI (Run d 189 0 [.inr (.inr (.inl 97))] [] h) fun a6_ h5_ => some (none, h5_)))) := by
  refine (R_istore_n (ls' := [.inr (.inr (.inl 97)), .inl x0, .inl y2]) zf213_57 (Nat.le_of_ble_eq_true rfl) rfl rfl).trans ?_
  refine (R_iload_n zf213_58 rfl rfl).trans ?_
  refine (R_if_eq (t := 74) zf213_59 rfl rfl).trans ?_
  refine ite_congr rfl (fun c1_ => ?_) (fun c1_ => ?_)
  · refine (R_iload_n zf213_74 rfl rfl).trans ?_
    refine (R_if_eq (t := 17) zf213_75 rfl rfl).trans ?_
    refine ite_congr rfl (fun c2_ => ?_) (fun c2_ => ?_)
    · rfl
    · refine (R_aload_n zf213_78 rfl zlt_97 rfl).trans ?_
      refine (R_dup zf213_79 rfl rfl).trans ?_
      refine (R_getI zf213_80 zo_213 zfl_12_119 zk1_97 zft_12_10 rfl).trans ?_
      refine (R_iconst zf213_83 zw_1 rfl).trans ?_
      refine (R_iadd zf213_84 rfl).trans ?_
      refine (R_putI zf213_85 zo_213 zfl_12_119 zk1_97 zft_12_10 rfl).trans ?_
      refine (R_goto (t := 17) zf213_88 rfl).trans ?_
      rfl
  · refine (R_iload_n zf213_62 rfl rfl).trans ?_
    refine (R_bipush zf213_63 zb_16 rfl).trans ?_
    refine (R_icmp_ne (t := 74) zf213_65 rfl rfl).trans ?_
    refine ite_congr rfl (fun c3_ => ?_) (fun c3_ => ?_)
    · refine (R_iload_n zf213_74 rfl rfl).trans ?_
      refine (R_if_eq (t := 17) zf213_75 rfl rfl).trans ?_
      refine ite_congr rfl (fun c4_ => ?_) (fun c4_ => ?_)
      · rfl
      · refine (R_aload_n zf213_78 rfl zlt_97 rfl).trans ?_
        refine (R_dup zf213_79 rfl rfl).trans ?_
        refine (R_getI zf213_80 zo_213 zfl_12_119 zk1_97 zft_12_10 rfl).trans ?_
        refine (R_iconst zf213_83 zw_1 rfl).trans ?_
        refine (R_iadd zf213_84 rfl).trans ?_
        refine (R_putI zf213_85 zo_213 zfl_12_119 zk1_97 zft_12_10 rfl).trans ?_
        refine (R_goto (t := 17) zf213_88 rfl).trans ?_
        rfl
    · refine (R_aload_n zf213_68 rfl zlt_97 rfl).trans ?_
      refine (R_vcallI zf213_69 zo_213 zvl_12_134 (by rw [zr_189]; rfl) zl_189 (Nat.le_of_ble_eq_true rfl) rfl rfl (Nat.le_of_ble_eq_true rfl) (Nat.le_of_ble_eq_true rfl) (es := [.inr (.inr (.inl 97))]) rfl rfl zk1_97 zo_189).trans ?_
      refine congrArg (cI _) (funext fun a6_ => funext fun h5_ => ?_)
      refine (R_pop zf213_72 rfl rfl).trans ?_
      exact R_return zf213_73 zr_213
-- CannonPostModel.isAmong(Ljava/lang/String;I)Z at 0
theorem q201_0 (d : Nat) (x0 : Int) (h : MH) : Run (d + 1) 201 0 [.inr (.inr (.inl 126)), .inl x0, vU] [] h = Run (d + 1) 201 2 [.inr (.inr (.inl 126)), .inl x0, .inl 0] [] h := by
  refine (R_iconst zf201_0 zw_0 rfl).trans ?_
  refine (R_istore_n (ls' := [.inr (.inr (.inl 126)), .inl x0, .inl 0]) zf201_1 (Nat.le_of_ble_eq_true rfl) rfl rfl).trans ?_
  rfl
-- CannonPostModel.takes(I)Z at 0
theorem q202_0 (d : Nat) (x0 : Int) (h : MH) : Run (d + 1) 202 0 [.inr (.inr (.inl 97)), .inl x0] [] h = (if ¬ (h 97 11) = (-1) then (cI (Run d 189 0 [.inr (.inr (.inl 97))] [] h) fun a3_ h2_ => (if a3_ = 0 ∨ a3_ = 1 then some (some (.inl a3_), h2_) else none)) else (cI (Run d 188 0 [.inr (.inr (.inl 97))] [] h) fun a5_ h4_ => (if a5_ = x0 then some (some (.inl 1), (up h4_ 97 10 (wI ((h4_ 97 10) + 1)))) else (cI (Run d 189 0 [.inr (.inr (.inl 97))] [] h4_) fun a8_ h7_ => (if a8_ = 0 ∨ a8_ = 1 then some (some (.inl a8_), h7_) else none))))) := by
  refine (R_aload_n zf202_0 rfl zlt_97 rfl).trans ?_
  refine (R_getI zf202_1 zo_202 zfl_12_128 zk1_97 zft_12_11 rfl).trans ?_
  refine (R_iconst zf202_4 zw_m1 rfl).trans ?_
  refine (R_icmp_ne (t := 16) zf202_5 rfl rfl).trans ?_
  refine ite_congr rfl (fun c1_ => ?_) (fun c1_ => ?_)
  · refine (R_aload_n zf202_16 rfl zlt_97 rfl).trans ?_
    refine (R_vcallI zf202_17 zo_202 zvl_12_134 (by rw [zr_189]; rfl) zl_189 (Nat.le_of_ble_eq_true rfl) rfl rfl (Nat.le_of_ble_eq_true rfl) (Nat.le_of_ble_eq_true rfl) (es := [.inr (.inr (.inl 97))]) rfl rfl zk1_97 zo_189).trans ?_
    refine congrArg (cI _) (funext fun a3_ => funext fun h2_ => ?_)
    exact R_ireturn_z zf202_20 zr_202
  · refine (R_aload_n zf202_8 rfl zlt_97 rfl).trans ?_
    refine (R_vcallI zf202_9 zo_202 zvl_12_138 (by rw [zr_188]; rfl) zl_188 (Nat.le_of_ble_eq_true rfl) rfl rfl (Nat.le_of_ble_eq_true rfl) (Nat.le_of_ble_eq_true rfl) (es := [.inr (.inr (.inl 97))]) rfl rfl zk1_97 zo_188).trans ?_
    refine congrArg (cI _) (funext fun a5_ => funext fun h4_ => ?_)
    refine (R_iload_n zf202_12 rfl rfl).trans ?_
    refine (R_icmp_eq (t := 21) zf202_13 rfl rfl).trans ?_
    refine ite_congr rfl (fun c6_ => ?_) (fun c6_ => ?_)
    · refine (R_aload_n zf202_21 rfl zlt_97 rfl).trans ?_
      refine (R_dup zf202_22 rfl rfl).trans ?_
      refine (R_getI zf202_23 zo_202 zfl_12_119 zk1_97 zft_12_10 rfl).trans ?_
      refine (R_iconst zf202_26 zw_1 rfl).trans ?_
      refine (R_iadd zf202_27 rfl).trans ?_
      refine (R_putI zf202_28 zo_202 zfl_12_119 zk1_97 zft_12_10 rfl).trans ?_
      refine (R_iconst zf202_31 zw_1 rfl).trans ?_
      exact R_ireturn zf202_32 (by rw [zr_202]; rfl)
    · refine (R_aload_n zf202_16 rfl zlt_97 rfl).trans ?_
      refine (R_vcallI zf202_17 zo_202 zvl_12_134 (by rw [zr_189]; rfl) zl_189 (Nat.le_of_ble_eq_true rfl) rfl rfl (Nat.le_of_ble_eq_true rfl) (Nat.le_of_ble_eq_true rfl) (es := [.inr (.inr (.inl 97))]) rfl rfl zk1_97 zo_189).trans ?_
      refine congrArg (cI _) (funext fun a8_ => funext fun h7_ => ?_)
      exact R_ireturn_z zf202_20 zr_202
-- CannonPostModel.condition(ZI)Z at 0
theorem q203_0 (d : Nat) (x0 : Int) (x1 : Int) (h : MH) : Run (d + 1) 203 0 [.inr (.inr (.inl 97)), .inl x0, .inl x1, vU, vU] [] h = (cI (Run d 204 0 [.inr (.inr (.inl 97)), .inl x0, .inl x1, vU, vU] [] h) fun a2_ h1_ => Run (d + 1) 203 7 [.inr (.inr (.inl 97)), .inl x0, .inl x1, .inl a2_, vU] [] h1_) := by
  refine (R_aload_n zf203_0 rfl zlt_97 rfl).trans ?_
  refine (R_iload_n zf203_1 rfl rfl).trans ?_
  refine (R_iload_n zf203_2 rfl rfl).trans ?_
  refine (R_vcallI zf203_3 zo_203 zvl_12_194 (by rw [zr_204]; rfl) zl_204 (Nat.le_of_ble_eq_true rfl) rfl rfl (Nat.le_of_ble_eq_true rfl) (Nat.le_of_ble_eq_true rfl) (es := [.inr (.inr (.inl 97)), .inl x0, .inl x1, vU, vU]) rfl rfl zk1_97 zo_204).trans ?_
  refine congrArg (cI _) (funext fun a2_ => funext fun h1_ => ?_)
  refine (R_istore_n (ls' := [.inr (.inr (.inl 97)), .inl x0, .inl x1, .inl a2_, vU]) zf203_6 (Nat.le_of_ble_eq_true rfl) rfl rfl).trans ?_
  rfl
-- CannonPostModel.sum()I at 0
theorem q206_0 (d : Nat) (h : MH) : Run (d + 1) 206 0 [.inr (.inr (.inl 97)), vU, vU, vU, vU] [] h = (cI (Run d 207 0 [.inr (.inr (.inl 97)), vU, vU, vU, vU] [] h) fun a2_ h1_ => Run (d + 1) 206 5 [.inr (.inr (.inl 97)), .inl a2_, vU, vU, vU] [] h1_) := by
  refine (R_aload_n zf206_0 rfl zlt_97 rfl).trans ?_
  refine (R_vcallI zf206_1 zo_206 zvl_12_178 (by rw [zr_207]; rfl) zl_207 (Nat.le_of_ble_eq_true rfl) rfl rfl (Nat.le_of_ble_eq_true rfl) (Nat.le_of_ble_eq_true rfl) (es := [.inr (.inr (.inl 97)), vU, vU, vU, vU]) rfl rfl zk1_97 zo_207).trans ?_
  refine congrArg (cI _) (funext fun a2_ => funext fun h1_ => ?_)
  refine (R_istore_n (ls' := [.inr (.inr (.inl 97)), .inl a2_, vU, vU, vU]) zf206_4 (Nat.le_of_ble_eq_true rfl) rfl rfl).trans ?_
  rfl
-- CannonPostModel.clause()V at 134
theorem q200_134 (d : Nat) (x0 : Int) (x1 : Int) (x2 : Int) (z3 : MV) (hz3 : cat z3 = 1) (h : MH) : Run (d + 1) 200 134 [.inr (.inr (.inl 97)), .inl x0, .inl x1, .inl x2, z3] [] h = (if ¬ (h 97 11) = (-1) then some (none, h) else (if ¬ (h 97 17) = 0 then some (none, h) else (if ¬ x0 = (h 97 13) then some (none, h) else (if ¬ x1 = 0 then some (none, (up (up h 97 17 1) 97 14 x2)) else some (none, h))))) := by
  refine (R_aload_n zf200_134 rfl zlt_97 rfl).trans ?_
  refine (R_getI zf200_135 zo_200 zfl_12_128 zk1_97 zft_12_11 rfl).trans ?_
  refine (R_iconst zf200_138 zw_m1 rfl).trans ?_
  refine (R_icmp_ne (t := 161) zf200_139 rfl rfl).trans ?_
  refine ite_congr rfl (fun c1_ => ?_) (fun c1_ => ?_)
  · exact R_return zf200_161 zr_200
  · refine (R_aload_n zf200_142 rfl zlt_97 rfl).trans ?_
    refine (R_getZ zf200_143 zo_200 zfl_12_197 zk1_97 zft_12_17 rfl).trans ?_
    refine (R_if_ne (t := 161) zf200_146 rfl rfl).trans ?_
    refine ite_congr rfl (fun c2_ => ?_) (fun c2_ => ?_)
    · exact R_return zf200_161 zr_200
    · refine (R_iload_n zf200_149 rfl rfl).trans ?_
      refine (R_aload_n zf200_150 rfl zlt_97 rfl).trans ?_
      refine (R_getI zf200_151 zo_200 zfl_12_201 zk1_97 zft_12_13 rfl).trans ?_
      refine (R_icmp_ne (t := 161) zf200_154 rfl rfl).trans ?_
      refine ite_congr rfl (fun c3_ => ?_) (fun c3_ => ?_)
      · exact R_return zf200_161 zr_200
      · refine (R_iload_n zf200_157 rfl rfl).trans ?_
        refine (R_if_ne (t := 162) zf200_158 rfl rfl).trans ?_
        refine ite_congr rfl (fun c4_ => ?_) (fun c4_ => ?_)
        · refine (R_aload_n zf200_162 rfl zlt_97 rfl).trans ?_
          refine (R_iconst zf200_163 zw_1 rfl).trans ?_
          refine (R_putZ zf200_164 zo_200 zfl_12_197 zk1_97 zft_12_17 rfl rfl).trans ?_
          refine (R_aload_n zf200_167 rfl zlt_97 rfl).trans ?_
          refine (R_iload_n zf200_168 rfl rfl).trans ?_
          refine (R_putI zf200_169 zo_200 zfl_12_204 zk1_97 zft_12_14 rfl).trans ?_
          exact R_return zf200_172 zr_200
        · exact R_return zf200_161 zr_200
-- CannonPostModel.isSign(I)Z at 0
theorem q211_0 (d : Nat) (x0 : Int) (h : MH) : Run d 211 0 [.inl x0] [] h = (if x0 = 61 then some (some (.inl 1), h) else (if x0 = 60 then some (some (.inl 1), h) else (if ¬ x0 = 62 then some (some (.inl 0), h) else some (some (.inl 1), h)))) := by
  refine (R_iload_n zf211_0 rfl rfl).trans ?_
  refine (R_bipush zf211_1 zb_61 rfl).trans ?_
  refine (R_icmp_eq (t := 18) zf211_3 rfl rfl).trans ?_
  refine ite_congr rfl (fun c1_ => ?_) (fun c1_ => ?_)
  · refine (R_iconst zf211_18 zw_1 rfl).trans ?_
    refine (R_goto (t := 23) zf211_19 rfl).trans ?_
    exact R_ireturn zf211_23 (by rw [zr_211]; rfl)
  · refine (R_iload_n zf211_6 rfl rfl).trans ?_
    refine (R_bipush zf211_7 zb_60 rfl).trans ?_
    refine (R_icmp_eq (t := 18) zf211_9 rfl rfl).trans ?_
    refine ite_congr rfl (fun c2_ => ?_) (fun c2_ => ?_)
    · refine (R_iconst zf211_18 zw_1 rfl).trans ?_
      refine (R_goto (t := 23) zf211_19 rfl).trans ?_
      exact R_ireturn zf211_23 (by rw [zr_211]; rfl)
    · refine (R_iload_n zf211_12 rfl rfl).trans ?_
      refine (R_bipush zf211_13 zb_62 rfl).trans ?_
      refine (R_icmp_ne (t := 22) zf211_15 rfl rfl).trans ?_
      refine ite_congr rfl (fun c3_ => ?_) (fun c3_ => ?_)
      · refine (R_iconst zf211_22 zw_0 rfl).trans ?_
        exact R_ireturn zf211_23 (by rw [zr_211]; rfl)
      · refine (R_iconst zf211_18 zw_1 rfl).trans ?_
        refine (R_goto (t := 23) zf211_19 rfl).trans ?_
        exact R_ireturn zf211_23 (by rw [zr_211]; rfl)
-- CannonPostModel.readLeague()V at 111
theorem q184_111 (d : Nat) (z0 : MV) (hz0 : cat z0 = 1) (h : MH) : Run (d + 1) 184 111 [.inr (.inr (.inl 97)), z0] [] h = (if ¬ (h 97 11) = (-1) then some (none, h) else (cI (Run d 188 0 [.inr (.inr (.inl 97))] [] h) fun a3_ h2_ => (if ¬ a3_ = (-1) then (cI (Run d 189 0 [.inr (.inr (.inl 97))] [] h2_) fun a6_ h5_ => some (none, h5_)) else (cI (Run d 198 0 [.inr (.inr (.inl 97)), vU, vU] [] h2_) fun a8_ h7_ => (if ¬ a8_ = 0 then some (none, h7_) else (cI (Run d 189 0 [.inr (.inr (.inl 97))] [] h7_) fun a11_ h10_ => some (none, h10_))))))) := by
  refine (R_aload_n zf184_111 rfl zlt_97 rfl).trans ?_
  refine (R_getI zf184_112 zo_184 zfl_12_128 zk1_97 zft_12_11 rfl).trans ?_
  refine (R_iconst zf184_115 zw_m1 rfl).trans ?_
  refine (R_icmp_ne (t := 139) zf184_116 rfl rfl).trans ?_
  refine ite_congr rfl (fun c1_ => ?_) (fun c1_ => ?_)
  · exact R_return zf184_139 zr_184
  · refine (R_aload_n zf184_119 rfl zlt_97 rfl).trans ?_
    refine (R_vcallI zf184_120 zo_184 zvl_12_138 (by rw [zr_188]; rfl) zl_188 (Nat.le_of_ble_eq_true rfl) rfl rfl (Nat.le_of_ble_eq_true rfl) (Nat.le_of_ble_eq_true rfl) (es := [.inr (.inr (.inl 97))]) rfl rfl zk1_97 zo_188).trans ?_
    refine congrArg (cI _) (funext fun a3_ => funext fun h2_ => ?_)
    refine (R_iconst zf184_123 zw_m1 rfl).trans ?_
    refine (R_icmp_ne (t := 134) zf184_124 rfl rfl).trans ?_
    refine ite_congr rfl (fun c4_ => ?_) (fun c4_ => ?_)
    · refine (R_aload_n zf184_134 rfl zlt_97 rfl).trans ?_
      refine (R_vcallI zf184_135 zo_184 zvl_12_134 (by rw [zr_189]; rfl) zl_189 (Nat.le_of_ble_eq_true rfl) rfl rfl (Nat.le_of_ble_eq_true rfl) (Nat.le_of_ble_eq_true rfl) (es := [.inr (.inr (.inl 97))]) rfl rfl zk1_97 zo_189).trans ?_
      refine congrArg (cI _) (funext fun a6_ => funext fun h5_ => ?_)
      refine (R_pop zf184_138 rfl rfl).trans ?_
      exact R_return zf184_139 zr_184
    · refine (R_aload_n zf184_127 rfl zlt_97 rfl).trans ?_
      refine (R_vcallI zf184_128 zo_184 zvl_12_264 (by rw [zr_198]; rfl) zl_198 (Nat.le_of_ble_eq_true rfl) rfl rfl (Nat.le_of_ble_eq_true rfl) (Nat.le_of_ble_eq_true rfl) (es := [.inr (.inr (.inl 97)), vU, vU]) rfl rfl zk1_97 zo_198).trans ?_
      refine congrArg (cI _) (funext fun a8_ => funext fun h7_ => ?_)
      refine (R_if_ne (t := 139) zf184_131 rfl rfl).trans ?_
      refine ite_congr rfl (fun c9_ => ?_) (fun c9_ => ?_)
      · exact R_return zf184_139 zr_184
      · refine (R_aload_n zf184_134 rfl zlt_97 rfl).trans ?_
        refine (R_vcallI zf184_135 zo_184 zvl_12_134 (by rw [zr_189]; rfl) zl_189 (Nat.le_of_ble_eq_true rfl) rfl rfl (Nat.le_of_ble_eq_true rfl) (Nat.le_of_ble_eq_true rfl) (es := [.inr (.inr (.inl 97))]) rfl rfl zk1_97 zo_189).trans ?_
        refine congrArg (cI _) (funext fun a11_ => funext fun h10_ => ?_)
        refine (R_pop zf184_138 rfl rfl).trans ?_
        exact R_return zf184_139 zr_184
-- CannonPostModel.readClause()V at 0
theorem q187_0 (d : Nat) (h : MH) : Run (d + 1) 187 0 [.inr (.inr (.inl 97)), vU, vU] [] h = (cI (Run d 188 0 [.inr (.inr (.inl 97))] [] h) fun a2_ h1_ => (if ¬ a2_ = 115 then Run (d + 1) 187 18 [.inr (.inr (.inl 97)), .inl a2_, vU] [] h1_ else (if (h1_ 97 31) = 0 then Run (d + 1) 187 52 [.inr (.inr (.inl 97)), .inl a2_, vU] [.inl 1] h1_ else Run (d + 1) 187 18 [.inr (.inr (.inl 97)), .inl a2_, vU] [] h1_))) := by
  refine (R_aload_n zf187_0 rfl zlt_97 rfl).trans ?_
  refine (R_vcallI zf187_1 zo_187 zvl_12_138 (by rw [zr_188]; rfl) zl_188 (Nat.le_of_ble_eq_true rfl) rfl rfl (Nat.le_of_ble_eq_true rfl) (Nat.le_of_ble_eq_true rfl) (es := [.inr (.inr (.inl 97))]) rfl rfl zk1_97 zo_188).trans ?_
  refine congrArg (cI _) (funext fun a2_ => funext fun h1_ => ?_)
  refine (R_istore_n (ls' := [.inr (.inr (.inl 97)), .inl a2_, vU]) zf187_4 (Nat.le_of_ble_eq_true rfl) rfl rfl).trans ?_
  refine (R_iload_n zf187_5 rfl rfl).trans ?_
  refine (R_bipush zf187_6 zb_115 rfl).trans ?_
  refine (R_icmp_ne (t := 18) zf187_8 rfl rfl).trans ?_
  refine ite_congr rfl (fun c3_ => ?_) (fun c3_ => ?_)
  · rfl
  · refine (R_aload_n zf187_11 rfl zlt_97 rfl).trans ?_
    refine (R_getZ zf187_12 zo_187 zfl_12_242 zk1_97 zft_12_31 rfl).trans ?_
    refine (R_if_eq (t := 47) zf187_15 rfl rfl).trans ?_
    refine ite_congr rfl (fun c4_ => ?_) (fun c4_ => ?_)
    · refine (R_iconst zf187_47 zw_1 rfl).trans ?_
      refine (R_goto (t := 52) zf187_48 rfl).trans ?_
      rfl
    · rfl
-- CannonPostModel.text(I)I at 274
theorem q216_274 (d : Nat) (z0 : MV) (hz0 : cat z0 = 1) (z1 : MV) (hz1 : cat z1 = 1) (x2 : Int) (h : MH) : Run (d + 1) 216 274 [.inr (.inr (.inl 97)), z0, z1, .inl x2] [] h = (if 15 ≤ x2 then Run (d + 1) 216 300 [.inr (.inr (.inl 97)), z0, z1, .inl 0] [] h else (if 0 ≤ x2 ∧ x2 < 15 then (if 0 ≤ x2 ∧ x2 < 15 then Run (d + 1) 216 274 [.inr (.inr (.inl 97)), z0, z1, .inl (wI (x2 + 1))] [] (up h 106 x2.toNat (h 107 x2.toNat)) else none) else none)) := by
  refine (R_iload_n zf216_274 rfl rfl).trans ?_
  refine (R_bipush zf216_275 zb_15 rfl).trans ?_
  refine (R_icmp_ge (t := 298) zf216_277 rfl rfl).trans ?_
  refine ite_congr rfl (fun c1_ => ?_) (fun c1_ => ?_)
  · refine (R_iconst zf216_298 zw_0 rfl).trans ?_
    refine (R_istore_n (ls' := [.inr (.inr (.inl 97)), z0, z1, .inl 0]) zf216_299 (Nat.le_of_ble_eq_true rfl) (st1_z rfl hz1 rfl) rfl).trans ?_
    rfl
  · refine (R_aload_n zf216_280 rfl zlt_97 rfl).trans ?_
    refine (R_getR zf216_281 zo_216 zfl_12_49 zk1_97 zft_12_22 zmr_97_22 rfl).trans ?_
    refine (R_iload_n zf216_284 rfl rfl).trans ?_
    refine (R_aload_n zf216_285 rfl zlt_97 rfl).trans ?_
    refine (R_getR zf216_286 zo_216 zfl_12_52 zk1_97 zft_12_23 zmr_97_23 rfl).trans ?_
    refine (R_iload_n zf216_289 rfl rfl).trans ?_
    refine (R_iald zf216_290 zk_107 rfl).trans ?_
    refine ite_congr rfl (fun c2_ => ?_) (fun _ => rfl)
    refine (R_iast zf216_291 zk_106 rfl).trans ?_
    refine ite_congr rfl (fun c3_ => ?_) (fun _ => rfl)
    refine (R_iinc (ls' := [.inr (.inr (.inl 97)), z0, z1, .inl (wI (x2 + 1))]) zf216_292 rfl (st1_z rfl hz1 rfl) rfl).trans ?_
    refine (R_goto (t := 274) zf216_295 rfl).trans ?_
    rfl
-- CannonPostModel.goHour([I)V at 48
theorem q247_48 (d : Nat) (x0 : Int) (h : MH) : Run (d + 1) 247 48 [.inr (.inr (.inl 97)), .inr (.inr (.inl 110)), .inl x0] [] h = (if (h 97 26) ≤ x0 then some (none, h) else (if ¬ ((h 110 35).tmod 4) = 0 then some (none, h) else (if 0 ≤ (wI (0 + x0)) ∧ (wI (0 + x0)) < 277 then (if 0 ≤ (wI (0 + x0)) ∧ (wI (0 + x0)) < 277 then Run (d + 1) 247 48 [.inr (.inr (.inl 97)), .inr (.inr (.inl 110)), .inl (wI (x0 + 1))] [] (up h 110 (wI (0 + x0)).toNat (mn 9 (wI ((h 110 (wI (0 + x0)).toNat) + 1)))) else none) else none))) := by
  refine (R_iload_n zf247_48 rfl rfl).trans ?_
  refine (R_aload_n zf247_49 rfl zlt_97 rfl).trans ?_
  refine (R_getI zf247_50 zo_247 zfl_12_294 zk1_97 zft_12_26 rfl).trans ?_
  refine (R_icmp_ge (t := 88) zf247_53 rfl rfl).trans ?_
  refine ite_congr rfl (fun c1_ => ?_) (fun c1_ => ?_)
  · exact R_return zf247_88 zr_247
  · refine (R_aload_n zf247_56 rfl zlt_110 rfl).trans ?_
    refine (R_bipush zf247_57 zb_35 rfl).trans ?_
    refine (R_ialdc zf247_59 zk_110 (by decide) rfl rfl).trans ?_
    refine (R_iconst zf247_60 zw_4 rfl).trans ?_
    refine (R_irem zf247_61 (by decide) rfl).trans ?_
    refine (R_if_ne (t := 88) zf247_62 rfl rfl).trans ?_
    refine ite_congr rfl (fun c2_ => ?_) (fun c2_ => ?_)
    · exact R_return zf247_88 zr_247
    · refine (R_aload_n zf247_65 rfl zlt_110 rfl).trans ?_
      refine (R_iconst zf247_66 zw_0 rfl).trans ?_
      refine (R_iload_n zf247_67 rfl rfl).trans ?_
      refine (R_iadd zf247_68 rfl).trans ?_
      refine (R_bipush zf247_69 zb_9 rfl).trans ?_
      refine (R_aload_n zf247_71 rfl zlt_110 rfl).trans ?_
      refine (R_iconst zf247_72 zw_0 rfl).trans ?_
      refine (R_iload_n zf247_73 rfl rfl).trans ?_
      refine (R_iadd zf247_74 rfl).trans ?_
      refine (R_iald zf247_75 zk_110 rfl).trans ?_
      refine ite_congr rfl (fun c3_ => ?_) (fun _ => rfl)
      refine (R_iconst zf247_76 zw_1 rfl).trans ?_
      refine (R_iadd zf247_77 rfl).trans ?_
      refine (R_mmin zf247_78 zo_247 zsl_12_318 zml_12_318 zna_12_318 (Nat.le_of_ble_eq_true rfl) rfl).trans ?_
      refine (R_iast zf247_81 zk_110 rfl).trans ?_
      refine ite_congr rfl (fun c4_ => ?_) (fun _ => rfl)
      refine (R_iinc (ls' := [.inr (.inr (.inl 97)), .inr (.inr (.inl 110)), .inl (wI (x0 + 1))]) zf247_82 rfl rfl rfl).trans ?_
      refine (R_goto (t := 48) zf247_85 rfl).trans ?_
      rfl
-- CannonPostModel.says([II)I at 5
theorem q250_5 (d : Nat) (x0 : Int) (x1 : Int) (x2 : Int) (h : MH) : Run (d + 1) 250 5 [.inr (.inr (.inl 97)), .inr (.inr (.inl 110)), .inl x0, .inl x1, .inl x2] [] h = (if 6 ≤ x2 then some (some (.inl x1), h) else (cI (Run d 217 0 [.inl x0] [] h) fun a3_ h2_ => (if 0 ≤ a3_ ∧ a3_ < 277 then (if 0 ≤ (wI (8 + (h2_ 110 a3_.toNat))) ∧ (wI (8 + (h2_ 110 a3_.toNat))) < 277 then (cI (Run d 192 0 [.inl (h2_ 110 (wI (8 + (h2_ 110 a3_.toNat))).toNat), .inl x2] [] h2_) fun a7_ h6_ => (if a7_ = 0 then Run (d + 1) 250 5 [.inr (.inr (.inl 97)), .inr (.inr (.inl 110)), .inl x0, .inl x1, .inl (wI (x2 + 1))] [] h6_ else (cI (Run d 76 0 [.inl x1] [] h6_) fun a10_ h9_ => (if (h9_ 102 3) ≤ a10_ then Run (d + 1) 250 5 [.inr (.inr (.inl 97)), .inr (.inr (.inl 110)), .inl x0, .inl x1, .inl (wI (x2 + 1))] [] h9_ else Run (d + 1) 250 5 [.inr (.inr (.inl 97)), .inr (.inr (.inl 110)), .inl x0, .inl (iOr x1 (iShl 1 x2)), .inl (wI (x2 + 1))] [] h9_)))) else none) else none))) := by
  refine (R_iload zf250_5 rfl rfl).trans ?_
  refine (R_bipush zf250_7 zb_6 rfl).trans ?_
  refine (R_icmp_ge (t := 57) zf250_9 rfl rfl).trans ?_
  refine ite_congr rfl (fun c1_ => ?_) (fun c1_ => ?_)
  · refine (R_iload_n zf250_57 rfl rfl).trans ?_
    exact R_ireturn_i zf250_58 zr_250
  · refine (R_aload_n zf250_12 rfl zlt_110 rfl).trans ?_
    refine (R_bipush zf250_13 zb_8 rfl).trans ?_
    refine (R_aload_n zf250_15 rfl zlt_110 rfl).trans ?_
    refine (R_iload_n zf250_16 rfl rfl).trans ?_
    refine (R_callI zf250_17 zo_250 zsl_12_300 (by rw [zr_217]; rfl) zl_217 (Nat.le_of_ble_eq_true rfl) rfl rfl (Nat.le_of_ble_eq_true rfl) (Nat.le_of_ble_eq_true rfl) (es := [.inl x0]) rfl rfl).trans ?_
    refine congrArg (cI _) (funext fun a3_ => funext fun h2_ => ?_)
    refine (R_iald zf250_20 zk_110 rfl).trans ?_
    refine ite_congr rfl (fun c4_ => ?_) (fun _ => rfl)
    refine (R_iadd zf250_21 rfl).trans ?_
    refine (R_iald zf250_22 zk_110 rfl).trans ?_
    refine ite_congr rfl (fun c5_ => ?_) (fun _ => rfl)
    refine (R_iload zf250_23 rfl rfl).trans ?_
    refine (R_callI zf250_25 zo_250 zsl_12_229 (by rw [zr_192]; rfl) zl_192 (Nat.le_of_ble_eq_true rfl) rfl rfl (Nat.le_of_ble_eq_true rfl) (Nat.le_of_ble_eq_true rfl) (es := [.inl (h2_ 110 (wI (8 + (h2_ 110 a3_.toNat))).toNat), .inl x2]) rfl rfl).trans ?_
    refine congrArg (cI _) (funext fun a7_ => funext fun h6_ => ?_)
    refine (R_if_eq (t := 51) zf250_28 rfl rfl).trans ?_
    refine ite_congr rfl (fun c8_ => ?_) (fun c8_ => ?_)
    · refine (R_iinc (ls' := [.inr (.inr (.inl 97)), .inr (.inr (.inl 110)), .inl x0, .inl x1, .inl (wI (x2 + 1))]) zf250_51 rfl rfl rfl).trans ?_
      refine (R_goto (t := 5) zf250_54 rfl).trans ?_
      rfl
    · refine (R_iload_n zf250_31 rfl rfl).trans ?_
      refine (R_callI zf250_32 zo_250 zsl_12_355 (by rw [zr_76]; rfl) zl_76 (Nat.le_of_ble_eq_true rfl) rfl rfl (Nat.le_of_ble_eq_true rfl) (Nat.le_of_ble_eq_true rfl) (es := [.inl x1]) rfl rfl).trans ?_
      refine congrArg (cI _) (funext fun a10_ => funext fun h9_ => ?_)
      refine (R_aload_n zf250_35 rfl zlt_97 rfl).trans ?_
      refine (R_getR zf250_36 zo_250 zfl_12_37 zk1_97 zft_12_18 zmr_97_18 rfl).trans ?_
      refine (R_iconst zf250_39 zw_3 rfl).trans ?_
      refine (R_ialdc zf250_40 zk_102 (by decide) rfl rfl).trans ?_
      refine (R_icmp_ge (t := 51) zf250_41 rfl rfl).trans ?_
      refine ite_congr rfl (fun c11_ => ?_) (fun c11_ => ?_)
      · refine (R_iinc (ls' := [.inr (.inr (.inl 97)), .inr (.inr (.inl 110)), .inl x0, .inl x1, .inl (wI (x2 + 1))]) zf250_51 rfl rfl rfl).trans ?_
        refine (R_goto (t := 5) zf250_54 rfl).trans ?_
        rfl
      · refine (R_iload_n zf250_44 rfl rfl).trans ?_
        refine (R_iconst zf250_45 zw_1 rfl).trans ?_
        refine (R_iload zf250_46 rfl rfl).trans ?_
        refine (R_ishl zf250_48 rfl).trans ?_
        refine (R_ior zf250_49 rfl).trans ?_
        refine (R_istore_n (ls' := [.inr (.inr (.inl 97)), .inr (.inr (.inl 110)), .inl x0, .inl (iOr x1 (iShl 1 x2)), .inl x2]) zf250_50 (Nat.le_of_ble_eq_true rfl) rfl rfl).trans ?_
        refine (R_iinc (ls' := [.inr (.inr (.inl 97)), .inr (.inr (.inl 110)), .inl x0, .inl (iOr x1 (iShl 1 x2)), .inl (wI (x2 + 1))]) zf250_51 rfl rfl rfl).trans ?_
        refine (R_goto (t := 5) zf250_54 rfl).trans ?_
        rfl
-- CannonPostModel.isFree([II)Z at 0
theorem q228_0_1 (d : Nat) (x0 : Int) (h : MH) : Run (d + 1) 228 0 [.inr (.inr (.inl 97)), .inr (.inr (.inl 111)), .inl x0] [] h = (cI (Run d 222 0 [.inr (.inr (.inl 97)), .inl x0] [] h) fun a2_ h1_ => (if a2_ = 0 then some (some (.inl 0), h1_) else (cI (Run d 217 0 [.inl x0] [] h1_) fun a5_ h4_ => (if 0 ≤ (wI (a5_ + 2)) ∧ (wI (a5_ + 2)) < 277 then (if ¬ (h4_ 111 (wI (a5_ + 2)).toNat) = 0 then some (some (.inl 0), h4_) else some (some (.inl 1), h4_)) else none)))) := by
  refine (R_aload_n zf228_0 rfl zlt_97 rfl).trans ?_
  refine (R_iload_n zf228_1 rfl rfl).trans ?_
  refine (R_vcallI zf228_2 zo_228 zvl_12_339 (by rw [zr_222]; rfl) zl_222 (Nat.le_of_ble_eq_true rfl) rfl rfl (Nat.le_of_ble_eq_true rfl) (Nat.le_of_ble_eq_true rfl) (es := [.inr (.inr (.inl 97)), .inl x0]) rfl rfl zk1_97 zo_222).trans ?_
  refine congrArg (cI _) (funext fun a2_ => funext fun h1_ => ?_)
  refine (R_if_eq (t := 23) zf228_5 rfl rfl).trans ?_
  refine ite_congr rfl (fun c3_ => ?_) (fun c3_ => ?_)
  · refine (R_iconst zf228_23 zw_0 rfl).trans ?_
    exact R_ireturn zf228_24 (by rw [zr_228]; rfl)
  · refine (R_aload_n zf228_8 rfl zlt_111 rfl).trans ?_
    refine (R_iload_n zf228_9 rfl rfl).trans ?_
    refine (R_callI zf228_10 zo_228 zsl_12_300 (by rw [zr_217]; rfl) zl_217 (Nat.le_of_ble_eq_true rfl) rfl rfl (Nat.le_of_ble_eq_true rfl) (Nat.le_of_ble_eq_true rfl) (es := [.inl x0]) rfl rfl).trans ?_
    refine congrArg (cI _) (funext fun a5_ => funext fun h4_ => ?_)
    refine (R_iconst zf228_13 zw_2 rfl).trans ?_
    refine (R_iadd zf228_14 rfl).trans ?_
    refine (R_iald zf228_15 zk_111 rfl).trans ?_
    refine ite_congr rfl (fun c6_ => ?_) (fun _ => rfl)
    refine (R_if_ne (t := 23) zf228_16 rfl rfl).trans ?_
    refine ite_congr rfl (fun c7_ => ?_) (fun c7_ => ?_)
    · refine (R_iconst zf228_23 zw_0 rfl).trans ?_
      exact R_ireturn zf228_24 (by rw [zr_228]; rfl)
    · refine (R_iconst zf228_19 zw_1 rfl).trans ?_
      refine (R_goto (t := 24) zf228_20 rfl).trans ?_
      exact R_ireturn zf228_24 (by rw [zr_228]; rfl)
-- CannonPostModel.says([II)I at 0
theorem q250_0_1 (d : Nat) (x0 : Int) (h : MH) : Run (d + 1) 250 0 [.inr (.inr (.inl 97)), .inr (.inr (.inl 111)), .inl x0, vU, vU] [] h = Run (d + 1) 250 5 [.inr (.inr (.inl 97)), .inr (.inr (.inl 111)), .inl x0, .inl 0, .inl 0] [] h := by
  refine (R_iconst zf250_0 zw_0 rfl).trans ?_
  refine (R_istore_n (ls' := [.inr (.inr (.inl 97)), .inr (.inr (.inl 111)), .inl x0, .inl 0, vU]) zf250_1 (Nat.le_of_ble_eq_true rfl) rfl rfl).trans ?_
  refine (R_iconst zf250_2 zw_0 rfl).trans ?_
  refine (R_istore (ls' := [.inr (.inr (.inl 97)), .inr (.inr (.inl 111)), .inl x0, .inl 0, .inl 0]) zf250_3 (Nat.le_of_ble_eq_true rfl) rfl rfl).trans ?_
  rfl
-- CannonPostModel.shoots([IIIII)I at 0
theorem q230_0_1 (d : Nat) (x0 : Int) (x1 : Int) (x2 : Int) (x3 : Int) (h : MH) : Run (d + 1) 230 0 [.inr (.inr (.inl 97)), .inr (.inr (.inl 111)), .inl x0, .inl x1, .inl x2, .inl x3, vU, vU, vU] [] h = (cI (Run d 217 0 [.inl x0] [] h) fun a2_ h1_ => (if 0 ≤ a2_ ∧ a2_ < 277 then (cI (Run d 231 0 [.inr (.inr (.inl 97)), .inr (.inr (.inl 111)), .inl x0, .inl (h1_ 111 a2_.toNat), .inl x1, .inl x2] [] h1_) fun a5_ h4_ => (cI (Run d 235 0 [.inr (.inr (.inl 97)), .inl a5_, vU] [] h4_) fun a7_ h6_ => (if ¬ a7_ = (-1) then (if 0 ≤ (wI (0 + a7_)) ∧ (wI (0 + a7_)) < 277 then (if ((up h6_ 111 31 (wI ((h6_ 111 31) - x1))) 111 (wI (0 + a7_)).toNat) ≤ 0 then (cI (Run d 217 0 [.inl x0] [] (up h6_ 111 31 (wI ((h6_ 111 31) - x1)))) fun a12_ h11_ => (cI (Run d 217 0 [.inl x0] [] h11_) fun a14_ h13_ => (if 0 ≤ (wI (a14_ + 1)) ∧ (wI (a14_ + 1)) < 277 then (if 0 ≤ (wI (a12_ + 1)) ∧ (wI (a12_ + 1)) < 277 then Run (d + 1) 230 96 [.inr (.inr (.inl 97)), .inr (.inr (.inl 111)), .inl x0, .inl x1, .inl x2, .inl x3, .inl (h1_ 111 a2_.toNat), .inl a7_, vU] [] (up h13_ 111 (wI (a12_ + 1)).toNat (mn 99 (wI ((h13_ 111 (wI (a14_ + 1)).toNat) + 1)))) else none) else none))) else (if 0 ≤ (wI (0 + a7_)) ∧ (wI (0 + a7_)) < 277 then (if 0 ≤ (wI (0 + a7_)) ∧ (wI (0 + a7_)) < 277 then Run (d + 1) 230 96 [.inr (.inr (.inl 97)), .inr (.inr (.inl 111)), .inl x0, .inl x1, .inl x2, .inl x3, .inl (h1_ 111 a2_.toNat), .inl a7_, vU] [] (up (up h6_ 111 31 (wI ((h6_ 111 31) - x1))) 111 (wI (0 + a7_)).toNat (wI (((up h6_ 111 31 (wI ((h6_ 111 31) - x1))) 111 (wI (0 + a7_)).toNat) - 1))) else none) else none)) else none) else (cI (Run d 217 0 [.inl x0] [] (up h6_ 111 31 (wI ((h6_ 111 31) - x1)))) fun a20_ h19_ => (if 0 ≤ (wI (a20_ + 2)) ∧ (wI (a20_ + 2)) < 277 then (if ¬ ((up h19_ 111 (wI (a20_ + 2)).toNat 2) 111 36) = 60 then Run (d + 1) 230 166 [.inr (.inr (.inl 97)), .inr (.inr (.inl 111)), .inl x0, .inl x1, .inl x2, .inl x3, .inl (h1_ 111 a2_.toNat), .inl a7_, vU] [] (up h19_ 111 (wI (a20_ + 2)).toNat 2) else Run (d + 1) 230 128 [.inr (.inr (.inl 97)), .inr (.inr (.inl 111)), .inl x0, .inl x1, .inl x2, .inl x3, .inl (h1_ 111 a2_.toNat), .inl a7_, .inl 1] [] (up h19_ 111 (wI (a20_ + 2)).toNat 2)) else none))))) else none)) := by
  refine (R_aload_n zf230_0 rfl zlt_111 rfl).trans ?_
  refine (R_iload_n zf230_1 rfl rfl).trans ?_
  refine (R_callI zf230_2 zo_230 zsl_12_300 (by rw [zr_217]; rfl) zl_217 (Nat.le_of_ble_eq_true rfl) rfl rfl (Nat.le_of_ble_eq_true rfl) (Nat.le_of_ble_eq_true rfl) (es := [.inl x0]) rfl rfl).trans ?_
  refine congrArg (cI _) (funext fun a2_ => funext fun h1_ => ?_)
  refine (R_iald zf230_5 zk_111 rfl).trans ?_
  refine ite_congr rfl (fun c3_ => ?_) (fun _ => rfl)
  refine (R_istore (ls' := [.inr (.inr (.inl 97)), .inr (.inr (.inl 111)), .inl x0, .inl x1, .inl x2, .inl x3, .inl (h1_ 111 a2_.toNat), vU, vU]) zf230_6 (Nat.le_of_ble_eq_true rfl) rfl rfl).trans ?_
  refine (R_aload_n zf230_8 rfl zlt_97 rfl).trans ?_
  refine (R_aload_n zf230_9 rfl zlt_97 rfl).trans ?_
  refine (R_aload_n zf230_10 rfl zlt_111 rfl).trans ?_
  refine (R_iload_n zf230_11 rfl rfl).trans ?_
  refine (R_iload zf230_12 rfl rfl).trans ?_
  refine (R_iload_n zf230_14 rfl rfl).trans ?_
  refine (R_iload zf230_15 rfl rfl).trans ?_
  refine (R_vcallI zf230_17 zo_230 zvl_12_348 (by rw [zr_231]; rfl) zl_231 (Nat.le_of_ble_eq_true rfl) rfl rfl (Nat.le_of_ble_eq_true rfl) (Nat.le_of_ble_eq_true rfl) (es := [.inr (.inr (.inl 97)), .inr (.inr (.inl 111)), .inl x0, .inl (h1_ 111 a2_.toNat), .inl x1, .inl x2]) rfl rfl zk1_97 zo_231).trans ?_
  refine congrArg (cI _) (funext fun a5_ => funext fun h4_ => ?_)
  refine (R_vcallI zf230_20 zo_230 zvl_12_352 (by rw [zr_235]; rfl) zl_235 (Nat.le_of_ble_eq_true rfl) rfl rfl (Nat.le_of_ble_eq_true rfl) (Nat.le_of_ble_eq_true rfl) (es := [.inr (.inr (.inl 97)), .inl a5_, vU]) rfl rfl zk1_97 zo_235).trans ?_
  refine congrArg (cI _) (funext fun a7_ => funext fun h6_ => ?_)
  refine (R_istore (ls' := [.inr (.inr (.inl 97)), .inr (.inr (.inl 111)), .inl x0, .inl x1, .inl x2, .inl x3, .inl (h1_ 111 a2_.toNat), .inl a7_, vU]) zf230_23 (Nat.le_of_ble_eq_true rfl) rfl rfl).trans ?_
  refine (R_aload_n zf230_25 rfl zlt_111 rfl).trans ?_
  refine (R_bipush zf230_26 zb_31 rfl).trans ?_
  refine (R_dup2 zf230_28 rfl rfl rfl).trans ?_
  refine (R_ialdc zf230_29 zk_111 (by decide) rfl rfl).trans ?_
  refine (R_iload_n zf230_30 rfl rfl).trans ?_
  refine (R_isub zf230_31 rfl).trans ?_
  refine (R_iastc zf230_32 zk_111 (by decide) rfl rfl).trans ?_
  refine (R_iload zf230_33 rfl rfl).trans ?_
  refine (R_iconst zf230_35 zw_m1 rfl).trans ?_
  refine (R_icmp_ne (t := 51) zf230_36 rfl rfl).trans ?_
  refine ite_congr rfl (fun c8_ => ?_) (fun c8_ => ?_)
  · refine (R_aload_n zf230_51 rfl zlt_111 rfl).trans ?_
    refine (R_iconst zf230_52 zw_0 rfl).trans ?_
    refine (R_iload zf230_53 rfl rfl).trans ?_
    refine (R_iadd zf230_55 rfl).trans ?_
    refine (R_iald zf230_56 zk_111 rfl).trans ?_
    refine ite_congr rfl (fun c9_ => ?_) (fun _ => rfl)
    refine (R_if_le (t := 73) zf230_57 rfl rfl).trans ?_
    refine ite_congr rfl (fun c10_ => ?_) (fun c10_ => ?_)
    · refine (R_aload_n zf230_73 rfl zlt_111 rfl).trans ?_
      refine (R_iload_n zf230_74 rfl rfl).trans ?_
      refine (R_callI zf230_75 zo_230 zsl_12_300 (by rw [zr_217]; rfl) zl_217 (Nat.le_of_ble_eq_true rfl) rfl rfl (Nat.le_of_ble_eq_true rfl) (Nat.le_of_ble_eq_true rfl) (es := [.inl x0]) rfl rfl).trans ?_
      refine congrArg (cI _) (funext fun a12_ => funext fun h11_ => ?_)
      refine (R_iconst zf230_78 zw_1 rfl).trans ?_
      refine (R_iadd zf230_79 rfl).trans ?_
      refine (R_bipush zf230_80 zb_99 rfl).trans ?_
      refine (R_aload_n zf230_82 rfl zlt_111 rfl).trans ?_
      refine (R_iload_n zf230_83 rfl rfl).trans ?_
      refine (R_callI zf230_84 zo_230 zsl_12_300 (by rw [zr_217]; rfl) zl_217 (Nat.le_of_ble_eq_true rfl) rfl rfl (Nat.le_of_ble_eq_true rfl) (Nat.le_of_ble_eq_true rfl) (es := [.inl x0]) rfl rfl).trans ?_
      refine congrArg (cI _) (funext fun a14_ => funext fun h13_ => ?_)
      refine (R_iconst zf230_87 zw_1 rfl).trans ?_
      refine (R_iadd zf230_88 rfl).trans ?_
      refine (R_iald zf230_89 zk_111 rfl).trans ?_
      refine ite_congr rfl (fun c15_ => ?_) (fun _ => rfl)
      refine (R_iconst zf230_90 zw_1 rfl).trans ?_
      refine (R_iadd zf230_91 rfl).trans ?_
      refine (R_mmin zf230_92 zo_230 zsl_12_318 zml_12_318 zna_12_318 (Nat.le_of_ble_eq_true rfl) rfl).trans ?_
      refine (R_iast zf230_95 zk_111 rfl).trans ?_
      refine ite_congr rfl (fun c16_ => ?_) (fun _ => rfl)
      rfl
    · refine (R_aload_n zf230_60 rfl zlt_111 rfl).trans ?_
      refine (R_iconst zf230_61 zw_0 rfl).trans ?_
      refine (R_iload zf230_62 rfl rfl).trans ?_
      refine (R_iadd zf230_64 rfl).trans ?_
      refine (R_dup2 zf230_65 rfl rfl rfl).trans ?_
      refine (R_iald zf230_66 zk_111 rfl).trans ?_
      refine ite_congr rfl (fun c17_ => ?_) (fun _ => rfl)
      refine (R_iconst zf230_67 zw_1 rfl).trans ?_
      refine (R_isub zf230_68 rfl).trans ?_
      refine (R_iast zf230_69 zk_111 rfl).trans ?_
      refine ite_congr rfl (fun c18_ => ?_) (fun _ => rfl)
      refine (R_goto (t := 96) zf230_70 rfl).trans ?_
      rfl
  · refine (R_aload_n zf230_39 rfl zlt_111 rfl).trans ?_
    refine (R_iload_n zf230_40 rfl rfl).trans ?_
    refine (R_callI zf230_41 zo_230 zsl_12_300 (by rw [zr_217]; rfl) zl_217 (Nat.le_of_ble_eq_true rfl) rfl rfl (Nat.le_of_ble_eq_true rfl) (Nat.le_of_ble_eq_true rfl) (es := [.inl x0]) rfl rfl).trans ?_
    refine congrArg (cI _) (funext fun a20_ => funext fun h19_ => ?_)
    refine (R_iconst zf230_44 zw_2 rfl).trans ?_
    refine (R_iadd zf230_45 rfl).trans ?_
    refine (R_iconst zf230_46 zw_2 rfl).trans ?_
    refine (R_iast zf230_47 zk_111 rfl).trans ?_
    refine ite_congr rfl (fun c21_ => ?_) (fun _ => rfl)
    refine (R_goto (t := 116) zf230_48 rfl).trans ?_
    refine (R_aload_n zf230_116 rfl zlt_111 rfl).trans ?_
    refine (R_bipush zf230_117 zb_36 rfl).trans ?_
    refine (R_ialdc zf230_119 zk_111 (by decide) rfl rfl).trans ?_
    refine (R_bipush zf230_120 zb_60 rfl).trans ?_
    refine (R_icmp_ne (t := 166) zf230_122 rfl rfl).trans ?_
    refine ite_congr rfl (fun c22_ => ?_) (fun c22_ => ?_)
    · rfl
    · refine (R_iconst zf230_125 zw_1 rfl).trans ?_
      refine (R_istore (ls' := [.inr (.inr (.inl 97)), .inr (.inr (.inl 111)), .inl x0, .inl x1, .inl x2, .inl x3, .inl (h1_ 111 a2_.toNat), .inl a7_, .inl 1]) zf230_126 (Nat.le_of_ble_eq_true rfl) rfl rfl).trans ?_
      rfl
-- CannonPostModel.blows([III)V at 0
theorem q243_0_1 (d : Nat) (x0 : Int) (x1 : Int) (h : MH) : Run d 243 0 [.inr (.inr (.inl 111)), .inl x0, .inl x1] [] h = some (none, (up (up h 111 32 x0) 111 33 x1)) := by
  refine (R_aload_n zf243_0 rfl zlt_111 rfl).trans ?_
  refine (R_bipush zf243_1 zb_32 rfl).trans ?_
  refine (R_iload_n zf243_3 rfl rfl).trans ?_
  refine (R_iastc zf243_4 zk_111 (by decide) rfl rfl).trans ?_
  refine (R_aload_n zf243_5 rfl zlt_111 rfl).trans ?_
  refine (R_bipush zf243_6 zb_33 rfl).trans ?_
  refine (R_iload_n zf243_8 rfl rfl).trans ?_
  refine (R_iastc zf243_9 zk_111 (by decide) rfl rfl).trans ?_
  exact R_return zf243_10 zr_243
-- CannonPostModel.goThrough([BII)V at 0
theorem q199_0_1 (d : Nat) (x0 : Int) (x1 : Int) (h : MH) : Run (d + 1) 199 0 [.inr (.inr (.inl 97)), .inr (.inr (.inl 99)), .inl x0, .inl x1] [] h = (cV (Run d 185 0 [.inr (.inr (.inl 97)), .inr (.inr (.inl 99)), .inl x0, .inl x1] [] h) fun h1_ => (cV (Run d 200 0 [.inr (.inr (.inl 97)), vU, vU, vU, vU] [] (up (up (up (up h1_ 97 13 121) 97 12 0) 97 17 0) 97 14 0)) fun h2_ => Run (d + 1) 199 32 [.inr (.inr (.inl 97)), .inr (.inr (.inl 99)), .inl x0, .inl x1] [] h2_)) := by
  refine (R_aload_n zf199_0 rfl zlt_97 rfl).trans ?_
  refine (R_aload_n zf199_1 rfl zlt_99 rfl).trans ?_
  refine (R_iload_n zf199_2 rfl rfl).trans ?_
  refine (R_iload_n zf199_3 rfl rfl).trans ?_
  refine (R_vcallV zf199_4 zo_199 zvl_12_207 zr_185 zl_185 (Nat.le_of_ble_eq_true rfl) rfl rfl (Nat.le_of_ble_eq_true rfl) (Nat.le_of_ble_eq_true rfl) (es := [.inr (.inr (.inl 97)), .inr (.inr (.inl 99)), .inl x0, .inl x1]) rfl rfl zk1_97 zo_185).trans ?_
  refine congrArg (cV _) (funext fun h1_ => ?_)
  refine (R_aload_n zf199_7 rfl zlt_97 rfl).trans ?_
  refine (R_bipush zf199_8 zb_121 rfl).trans ?_
  refine (R_putI zf199_10 zo_199 zfl_12_201 zk1_97 zft_12_13 rfl).trans ?_
  refine (R_aload_n zf199_13 rfl zlt_97 rfl).trans ?_
  refine (R_iconst zf199_14 zw_0 rfl).trans ?_
  refine (R_putI zf199_15 zo_199 zfl_12_131 zk1_97 zft_12_12 rfl).trans ?_
  refine (R_aload_n zf199_18 rfl zlt_97 rfl).trans ?_
  refine (R_iconst zf199_19 zw_0 rfl).trans ?_
  refine (R_putZ zf199_20 zo_199 zfl_12_197 zk1_97 zft_12_17 rfl rfl).trans ?_
  refine (R_aload_n zf199_23 rfl zlt_97 rfl).trans ?_
  refine (R_iconst zf199_24 zw_0 rfl).trans ?_
  refine (R_putI zf199_25 zo_199 zfl_12_204 zk1_97 zft_12_14 rfl).trans ?_
  refine (R_aload_n zf199_28 rfl zlt_97 rfl).trans ?_
  refine (R_vcallV zf199_29 zo_199 zvl_12_211 zr_200 zl_200 (Nat.le_of_ble_eq_true rfl) rfl rfl (Nat.le_of_ble_eq_true rfl) (Nat.le_of_ble_eq_true rfl) (es := [.inr (.inr (.inl 97)), vU, vU, vU, vU]) rfl rfl zk1_97 zo_200).trans ?_
  refine congrArg (cV _) (funext fun h2_ => ?_)
  rfl
-- CannonPostModel.layAims(I)V at 39
theorem q264_39 (d : Nat) (x0 : Int) (x1 : Int) (x2 : Int) (z3 : MV) (hz3 : cat z3 = 1) (z4 : MV) (hz4 : cat z4 = 1) (h : MH) : Run (d + 1) 264 39 [.inr (.inr (.inl 97)), .inl x0, .inl x1, .inl x2, z3, z4] [] h = (if x2 ≤ 0 then Run (d + 1) 264 28 [.inr (.inr (.inl 97)), .inl x0, .inl (wI (x1 + 1)), .inl x2, z3, z4] [] h else Run (d + 1) 264 46 [.inr (.inr (.inl 97)), .inl x0, .inl x1, .inl x2, .inl 0, z4] [] h) := by
  refine (R_iload_n zf264_39 rfl rfl).trans ?_
  refine (R_if_le (t := 145) zf264_40 rfl rfl).trans ?_
  refine ite_congr rfl (fun c1_ => ?_) (fun c1_ => ?_)
  · refine (R_iinc (ls' := [.inr (.inr (.inl 97)), .inl x0, .inl (wI (x1 + 1)), .inl x2, z3, z4]) zf264_145 rfl rfl rfl).trans ?_
    refine (R_goto (t := 28) zf264_148 rfl).trans ?_
    rfl
  · refine (R_iconst zf264_43 zw_0 rfl).trans ?_
    refine (R_istore (ls' := [.inr (.inr (.inl 97)), .inl x0, .inl x1, .inl x2, .inl 0, z4]) zf264_44 (Nat.le_of_ble_eq_true rfl) rfl rfl).trans ?_
    rfl
-- CannonPostModel.goRoute(IIIIIII)V at 91
theorem q268_91 (d : Nat) (x0 : Int) (x1 : Int) (x2 : Int) (x3 : Int) (x4 : Int) (x5 : Int) (x6 : Int) (x7 : Int) (h : MH) : Run (d + 1) 268 91 [.inr (.inr (.inl 97)), .inl x0, .inl x1, .inl x2, .inl x3, .inl x4, .inl x5, .inl x6, .inl x7] [] h = (if (h 97 26) ≤ x7 then some (none, h) else (cI (Run d 192 0 [.inl x3, .inl x7] [] h) fun a3_ h2_ => (if ¬ a3_ = 0 then Run (d + 1) 268 91 [.inr (.inr (.inl 97)), .inl x0, .inl x1, .inl x2, .inl x3, .inl x4, .inl x5, .inl x6, .inl (wI (x7 + 1))] [] h2_ else (cI (Run d 265 0 [.inr (.inr (.inl 97)), .inl x0, .inl x1, .inl x7] [] h2_) fun a6_ h5_ => (if a6_ ≤ 0 then Run (d + 1) 268 91 [.inr (.inr (.inl 97)), .inl x0, .inl x1, .inl x2, .inl x3, .inl x4, .inl x5, .inl x6, .inl (wI (x7 + 1))] [] h5_ else (cI (Run d 265 0 [.inr (.inr (.inl 97)), .inl x0, .inl x1, .inl x7] [] h5_) fun a9_ h8_ => (cV (Run d 268 0 [.inr (.inr (.inl 97)), .inl x0, .inl x7, .inl x2, .inl (iOr x3 (iShl 1 x7)), .inl (wI (x4 + 1)), .inl (wI (x5 + a9_)), .inl (wI ((wI (10 * x6)) + x7)), vU] [] h8_) fun h10_ => Run (d + 1) 268 91 [.inr (.inr (.inl 97)), .inl x0, .inl x1, .inl x2, .inl x3, .inl x4, .inl x5, .inl x6, .inl (wI (x7 + 1))] [] h10_))))))) := by
  refine (R_iload zf268_91 rfl rfl).trans ?_
  refine (R_aload_n zf268_93 rfl zlt_97 rfl).trans ?_
  refine (R_getI zf268_94 zo_268 zfl_12_294 zk1_97 zft_12_26 rfl).trans ?_
  refine (R_icmp_ge (t := 165) zf268_97 rfl rfl).trans ?_
  refine ite_congr rfl (fun c1_ => ?_) (fun c1_ => ?_)
  · exact R_return zf268_165 zr_268
  · refine (R_iload zf268_100 rfl rfl).trans ?_
    refine (R_iload zf268_102 rfl rfl).trans ?_
    refine (R_callI zf268_104 zo_268 zsl_12_229 (by rw [zr_192]; rfl) zl_192 (Nat.le_of_ble_eq_true rfl) rfl rfl (Nat.le_of_ble_eq_true rfl) (Nat.le_of_ble_eq_true rfl) (es := [.inl x3, .inl x7]) rfl rfl).trans ?_
    refine congrArg (cI _) (funext fun a3_ => funext fun h2_ => ?_)
    refine (R_if_ne (t := 159) zf268_107 rfl rfl).trans ?_
    refine ite_congr rfl (fun c4_ => ?_) (fun c4_ => ?_)
    · refine (R_iinc (ls' := [.inr (.inr (.inl 97)), .inl x0, .inl x1, .inl x2, .inl x3, .inl x4, .inl x5, .inl x6, .inl (wI (x7 + 1))]) zf268_159 rfl rfl rfl).trans ?_
      refine (R_goto (t := 91) zf268_162 rfl).trans ?_
      rfl
    · refine (R_aload_n zf268_110 rfl zlt_97 rfl).trans ?_
      refine (R_iload_n zf268_111 rfl rfl).trans ?_
      refine (R_iload_n zf268_112 rfl rfl).trans ?_
      refine (R_iload zf268_113 rfl rfl).trans ?_
      refine (R_vcallI zf268_115 zo_268 zvl_12_446 (by rw [zr_265]; rfl) zl_265 (Nat.le_of_ble_eq_true rfl) rfl rfl (Nat.le_of_ble_eq_true rfl) (Nat.le_of_ble_eq_true rfl) (es := [.inr (.inr (.inl 97)), .inl x0, .inl x1, .inl x7]) rfl rfl zk1_97 zo_265).trans ?_
      refine congrArg (cI _) (funext fun a6_ => funext fun h5_ => ?_)
      refine (R_if_le (t := 159) zf268_118 rfl rfl).trans ?_
      refine ite_congr rfl (fun c7_ => ?_) (fun c7_ => ?_)
      · refine (R_iinc (ls' := [.inr (.inr (.inl 97)), .inl x0, .inl x1, .inl x2, .inl x3, .inl x4, .inl x5, .inl x6, .inl (wI (x7 + 1))]) zf268_159 rfl rfl rfl).trans ?_
        refine (R_goto (t := 91) zf268_162 rfl).trans ?_
        rfl
      · refine (R_aload_n zf268_121 rfl zlt_97 rfl).trans ?_
        refine (R_iload_n zf268_122 rfl rfl).trans ?_
        refine (R_iload zf268_123 rfl rfl).trans ?_
        refine (R_iload_n zf268_125 rfl rfl).trans ?_
        refine (R_iload zf268_126 rfl rfl).trans ?_
        refine (R_iconst zf268_128 zw_1 rfl).trans ?_
        refine (R_iload zf268_129 rfl rfl).trans ?_
        refine (R_ishl zf268_131 rfl).trans ?_
        refine (R_ior zf268_132 rfl).trans ?_
        refine (R_iload zf268_133 rfl rfl).trans ?_
        refine (R_iconst zf268_135 zw_1 rfl).trans ?_
        refine (R_iadd zf268_136 rfl).trans ?_
        refine (R_iload zf268_137 rfl rfl).trans ?_
        refine (R_aload_n zf268_139 rfl zlt_97 rfl).trans ?_
        refine (R_iload_n zf268_140 rfl rfl).trans ?_
        refine (R_iload_n zf268_141 rfl rfl).trans ?_
        refine (R_iload zf268_142 rfl rfl).trans ?_
        refine (R_vcallI zf268_144 zo_268 zvl_12_446 (by rw [zr_265]; rfl) zl_265 (Nat.le_of_ble_eq_true rfl) rfl rfl (Nat.le_of_ble_eq_true rfl) (Nat.le_of_ble_eq_true rfl) (es := [.inr (.inr (.inl 97)), .inl x0, .inl x1, .inl x7]) rfl rfl zk1_97 zo_265).trans ?_
        refine congrArg (cI _) (funext fun a9_ => funext fun h8_ => ?_)
        refine (R_iadd zf268_147 rfl).trans ?_
        refine (R_bipush zf268_148 zb_10 rfl).trans ?_
        refine (R_iload zf268_150 rfl rfl).trans ?_
        refine (R_imul zf268_152 rfl).trans ?_
        refine (R_iload zf268_153 rfl rfl).trans ?_
        refine (R_iadd zf268_155 rfl).trans ?_
        refine (R_vcallV zf268_156 zo_268 zvl_12_459 zr_268 zl_268 (Nat.le_of_ble_eq_true rfl) rfl rfl (Nat.le_of_ble_eq_true rfl) (Nat.le_of_ble_eq_true rfl) (es := [.inr (.inr (.inl 97)), .inl x0, .inl x7, .inl x2, .inl (iOr x3 (iShl 1 x7)), .inl (wI (x4 + 1)), .inl (wI (x5 + a9_)), .inl (wI ((wI (10 * x6)) + x7)), vU]) rfl rfl zk1_97 zo_268).trans ?_
        refine congrArg (cV _) (funext fun h10_ => ?_)
        refine (R_iinc (ls' := [.inr (.inr (.inl 97)), .inl x0, .inl x1, .inl x2, .inl x3, .inl x4, .inl x5, .inl x6, .inl (wI (x7 + 1))]) zf268_159 rfl rfl rfl).trans ?_
        refine (R_goto (t := 91) zf268_162 rfl).trans ?_
        rfl
-- CannonPostModel.goesOn(IIIII)Z at 0
theorem q275_0 (d : Nat) (x0 : Int) (x1 : Int) (x2 : Int) (x3 : Int) (x4 : Int) (h : MH) : Run (d + 1) 275 0 [.inr (.inr (.inl 97)), .inl x0, .inl x1, .inl x2, .inl x3, .inl x4, vU, vU] [] h = (if 0 ≤ x0 ∧ x0 < 5 then (if (h 114 x0.toNat) = x1 then some (some (.inl 0), h) else (cI (Run d 265 0 [.inr (.inr (.inl 97)), .inl x0, .inl (h 114 x0.toNat), .inl x1] [] h) fun a4_ h3_ => (if ¬ a4_ = 0 then (if 0 ≤ x0 ∧ x0 < 5 then (cI (Run d 192 0 [.inl x2, .inl (h 114 x0.toNat)] [] (up h3_ 114 x0.toNat x1)) fun a8_ h7_ => (if a8_ = 0 then (cI (Run d 276 0 [.inr (.inr (.inl 97)), .inl x2, .inl x3, .inl (wI (x4 - 1)), vU, vU] [] h7_) fun a11_ h10_ => (if 0 ≤ x0 ∧ x0 < 5 then (if a11_ = 0 ∨ a11_ = 1 then some (some (.inl a11_), (up h10_ 114 x0.toNat (h 114 x0.toNat))) else none) else none)) else (cI (Run d 276 0 [.inr (.inr (.inl 97)), .inl (iOr x2 (iShl 1 x1)), .inl x3, .inl (wI (x4 - 1)), vU, vU] [] h7_) fun a14_ h13_ => (if 0 ≤ x0 ∧ x0 < 5 then (if a14_ = 0 ∨ a14_ = 1 then some (some (.inl a14_), (up h13_ 114 x0.toNat (h 114 x0.toNat))) else none) else none)))) else none) else some (some (.inl 0), h3_)))) else none) := by
  refine (R_aload_n zf275_0 rfl zlt_97 rfl).trans ?_
  refine (R_getR zf275_1 zo_275 zfl_12_77 zk1_97 zft_12_43 zmr_97_43 rfl).trans ?_
  refine (R_iload_n zf275_4 rfl rfl).trans ?_
  refine (R_iald zf275_5 zk_114 rfl).trans ?_
  refine ite_congr rfl (fun c1_ => ?_) (fun _ => rfl)
  refine (R_istore (ls' := [.inr (.inr (.inl 97)), .inl x0, .inl x1, .inl x2, .inl x3, .inl x4, .inl (h 114 x0.toNat), vU]) zf275_6 (Nat.le_of_ble_eq_true rfl) rfl rfl).trans ?_
  refine (R_iload zf275_8 rfl rfl).trans ?_
  refine (R_iload_n zf275_10 rfl rfl).trans ?_
  refine (R_icmp_eq (t := 25) zf275_11 rfl rfl).trans ?_
  refine ite_congr rfl (fun c2_ => ?_) (fun c2_ => ?_)
  · refine (R_iconst zf275_25 zw_0 rfl).trans ?_
    exact R_ireturn zf275_26 (by rw [zr_275]; rfl)
  · refine (R_aload_n zf275_14 rfl zlt_97 rfl).trans ?_
    refine (R_iload_n zf275_15 rfl rfl).trans ?_
    refine (R_iload zf275_16 rfl rfl).trans ?_
    refine (R_iload_n zf275_18 rfl rfl).trans ?_
    refine (R_vcallI zf275_19 zo_275 zvl_12_446 (by rw [zr_265]; rfl) zl_265 (Nat.le_of_ble_eq_true rfl) rfl rfl (Nat.le_of_ble_eq_true rfl) (Nat.le_of_ble_eq_true rfl) (es := [.inr (.inr (.inl 97)), .inl x0, .inl (h 114 x0.toNat), .inl x1]) rfl rfl zk1_97 zo_265).trans ?_
    refine congrArg (cI _) (funext fun a4_ => funext fun h3_ => ?_)
    refine (R_if_ne (t := 27) zf275_22 rfl rfl).trans ?_
    refine ite_congr rfl (fun c5_ => ?_) (fun c5_ => ?_)
    · refine (R_aload_n zf275_27 rfl zlt_97 rfl).trans ?_
      refine (R_getR zf275_28 zo_275 zfl_12_77 zk1_97 zft_12_43 zmr_97_43 rfl).trans ?_
      refine (R_iload_n zf275_31 rfl rfl).trans ?_
      refine (R_iload_n zf275_32 rfl rfl).trans ?_
      refine (R_iast zf275_33 zk_114 rfl).trans ?_
      refine ite_congr rfl (fun c6_ => ?_) (fun _ => rfl)
      refine (R_aload_n zf275_34 rfl zlt_97 rfl).trans ?_
      refine (R_iload_n zf275_35 rfl rfl).trans ?_
      refine (R_iload zf275_36 rfl rfl).trans ?_
      refine (R_callI zf275_38 zo_275 zsl_12_229 (by rw [zr_192]; rfl) zl_192 (Nat.le_of_ble_eq_true rfl) rfl rfl (Nat.le_of_ble_eq_true rfl) (Nat.le_of_ble_eq_true rfl) (es := [.inl x2, .inl (h 114 x0.toNat)]) rfl rfl).trans ?_
      refine congrArg (cI _) (funext fun a8_ => funext fun h7_ => ?_)
      refine (R_if_eq (t := 52) zf275_41 rfl rfl).trans ?_
      refine ite_congr rfl (fun c9_ => ?_) (fun c9_ => ?_)
      · refine (R_iload_n zf275_52 rfl rfl).trans ?_
        refine (R_iload zf275_53 rfl rfl).trans ?_
        refine (R_iload zf275_55 rfl rfl).trans ?_
        refine (R_iconst zf275_57 zw_1 rfl).trans ?_
        refine (R_isub zf275_58 rfl).trans ?_
        refine (R_vcallI zf275_59 zo_275 zvl_12_478 (by rw [zr_276]; rfl) zl_276 (Nat.le_of_ble_eq_true rfl) rfl rfl (Nat.le_of_ble_eq_true rfl) (Nat.le_of_ble_eq_true rfl) (es := [.inr (.inr (.inl 97)), .inl x2, .inl x3, .inl (wI (x4 - 1)), vU, vU]) rfl rfl zk1_97 zo_276).trans ?_
        refine congrArg (cI _) (funext fun a11_ => funext fun h10_ => ?_)
        refine (R_istore (ls' := [.inr (.inr (.inl 97)), .inl x0, .inl x1, .inl x2, .inl x3, .inl x4, .inl (h 114 x0.toNat), .inl a11_]) zf275_62 (Nat.le_of_ble_eq_true rfl) rfl rfl).trans ?_
        refine (R_aload_n zf275_64 rfl zlt_97 rfl).trans ?_
        refine (R_getR zf275_65 zo_275 zfl_12_77 zk1_97 zft_12_43 zmr_97_43 rfl).trans ?_
        refine (R_iload_n zf275_68 rfl rfl).trans ?_
        refine (R_iload zf275_69 rfl rfl).trans ?_
        refine (R_iast zf275_71 zk_114 rfl).trans ?_
        refine ite_congr rfl (fun c12_ => ?_) (fun _ => rfl)
        refine (R_iload zf275_72 rfl rfl).trans ?_
        exact R_ireturn_z zf275_74 zr_275
      · refine (R_iload_n zf275_44 rfl rfl).trans ?_
        refine (R_iconst zf275_45 zw_1 rfl).trans ?_
        refine (R_iload_n zf275_46 rfl rfl).trans ?_
        refine (R_ishl zf275_47 rfl).trans ?_
        refine (R_ior zf275_48 rfl).trans ?_
        refine (R_goto (t := 53) zf275_49 rfl).trans ?_
        refine (R_iload zf275_53 rfl rfl).trans ?_
        refine (R_iload zf275_55 rfl rfl).trans ?_
        refine (R_iconst zf275_57 zw_1 rfl).trans ?_
        refine (R_isub zf275_58 rfl).trans ?_
        refine (R_vcallI zf275_59 zo_275 zvl_12_478 (by rw [zr_276]; rfl) zl_276 (Nat.le_of_ble_eq_true rfl) rfl rfl (Nat.le_of_ble_eq_true rfl) (Nat.le_of_ble_eq_true rfl) (es := [.inr (.inr (.inl 97)), .inl (iOr x2 (iShl 1 x1)), .inl x3, .inl (wI (x4 - 1)), vU, vU]) rfl rfl zk1_97 zo_276).trans ?_
        refine congrArg (cI _) (funext fun a14_ => funext fun h13_ => ?_)
        refine (R_istore (ls' := [.inr (.inr (.inl 97)), .inl x0, .inl x1, .inl x2, .inl x3, .inl x4, .inl (h 114 x0.toNat), .inl a14_]) zf275_62 (Nat.le_of_ble_eq_true rfl) rfl rfl).trans ?_
        refine (R_aload_n zf275_64 rfl zlt_97 rfl).trans ?_
        refine (R_getR zf275_65 zo_275 zfl_12_77 zk1_97 zft_12_43 zmr_97_43 rfl).trans ?_
        refine (R_iload_n zf275_68 rfl rfl).trans ?_
        refine (R_iload zf275_69 rfl rfl).trans ?_
        refine (R_iast zf275_71 zk_114 rfl).trans ?_
        refine ite_congr rfl (fun c15_ => ?_) (fun _ => rfl)
        refine (R_iload zf275_72 rfl rfl).trans ?_
        exact R_ireturn_z zf275_74 zr_275
    · refine (R_iconst zf275_25 zw_0 rfl).trans ?_
      exact R_ireturn zf275_26 (by rw [zr_275]; rfl)
-- CannonPostModel.ask(II)I at 95
theorem q280_95 (d : Nat) (x0 : Int) (x1 : Int) (x2 : Int) (x3 : Int) (x4 : Int) (x5 : Int) (x6 : Int) (x7 : Int) (z8 : MV) (hz8 : cat z8 = 1) (z9 : MV) (hz9 : cat z9 = 1) (h : MH) : Run (d + 1) 280 95 [.inr (.inr (.inl 97)), .inl x0, .inl x1, .inl x2, .inl x3, .inl x4, .inl x5, .inl x6, .inl x7, z8, z9] [] h = (if 128 ≤ x7 then Run (d + 1) 280 125 [.inr (.inr (.inl 97)), .inl x0, .inl x1, .inl x2, .inl x3, .inl x4, .inl x5, .inl x6, .inl 0, .inl 0, z9] [] h else (if 0 ≤ x7 ∧ x7 < 128 then Run (d + 1) 280 95 [.inr (.inr (.inl 97)), .inl x0, .inl x1, .inl x2, .inl x3, .inl x4, .inl x5, .inl x6, .inl (wI (x7 + 1)), z8, z9] [] (up h 116 x7.toNat 0) else none)) := by
  refine (R_iload zf280_95 rfl rfl).trans ?_
  refine (R_aload_n zf280_97 rfl zlt_97 rfl).trans ?_
  refine (R_getR zf280_98 zo_280 zfl_12_83 zk1_97 zft_12_45 zmr_97_45 rfl).trans ?_
  refine (R_len100 (v := 128) zf280_101 zk_116 rfl rfl).trans ?_
  refine (R_icmp_ge (t := 119) zf280_102 rfl rfl).trans ?_
  refine ite_congr rfl (fun c1_ => ?_) (fun c1_ => ?_)
  · refine (R_iconst zf280_119 zw_0 rfl).trans ?_
    refine (R_istore (ls' := [.inr (.inr (.inl 97)), .inl x0, .inl x1, .inl x2, .inl x3, .inl x4, .inl x5, .inl x6, .inl 0, z8, z9]) zf280_120 (Nat.le_of_ble_eq_true rfl) rfl rfl).trans ?_
    refine (R_iconst zf280_122 zw_0 rfl).trans ?_
    refine (R_istore (ls' := [.inr (.inr (.inl 97)), .inl x0, .inl x1, .inl x2, .inl x3, .inl x4, .inl x5, .inl x6, .inl 0, .inl 0, z9]) zf280_123 (Nat.le_of_ble_eq_true rfl) rfl rfl).trans ?_
    rfl
  · refine (R_aload_n zf280_105 rfl zlt_97 rfl).trans ?_
    refine (R_getR zf280_106 zo_280 zfl_12_83 zk1_97 zft_12_45 zmr_97_45 rfl).trans ?_
    refine (R_iload zf280_109 rfl rfl).trans ?_
    refine (R_iconst zf280_111 zw_0 rfl).trans ?_
    refine (R_iast zf280_112 zk_116 rfl).trans ?_
    refine ite_congr rfl (fun c2_ => ?_) (fun _ => rfl)
    refine (R_iinc (ls' := [.inr (.inr (.inl 97)), .inl x0, .inl x1, .inl x2, .inl x3, .inl x4, .inl x5, .inl x6, .inl (wI (x7 + 1)), z8, z9]) zf280_113 rfl rfl rfl).trans ?_
    refine (R_goto (t := 95) zf280_116 rfl).trans ?_
    rfl
-- CannonPostModel.netOf(II)I at 31
theorem q282_31 (d : Nat) (z0 : MV) (hz0 : cat z0 = 1) (x1 : Int) (x2 : Int) (x3 : Int) (x4 : Int) (x5 : Int) (h : MH) : Run (d + 1) 282 31 [.inr (.inr (.inl 97)), z0, .inl x1, .inl x2, .inl x3, .inl x4, .inl x5] [] h = (if (h 97 26) ≤ x5 then Run (d + 1) 282 19 [.inr (.inr (.inl 97)), z0, .inl x1, .inl x2, .inl x3, .inl (wI (x4 + 1)), .inl x5] [] h else (cI (Run d 192 0 [.inl x2, .inl x4] [] h) fun a3_ h2_ => (if a3_ = 0 then Run (d + 1) 282 19 [.inr (.inr (.inl 97)), z0, .inl x1, .inl x2, .inl x3, .inl (wI (x4 + 1)), .inl x5] [] h2_ else (if x5 = x1 then Run (d + 1) 282 31 [.inr (.inr (.inl 97)), z0, .inl x1, .inl x2, .inl x3, .inl x4, .inl (wI (x5 + 1))] [] h2_ else (cI (Run d 283 0 [.inr (.inr (.inl 97)), .inl x4, .inl x5, vU] [] h2_) fun a7_ h6_ => (if a7_ = 0 then Run (d + 1) 282 31 [.inr (.inr (.inl 97)), z0, .inl x1, .inl x2, .inl x3, .inl x4, .inl (wI (x5 + 1))] [] h6_ else Run (d + 1) 282 31 [.inr (.inr (.inl 97)), z0, .inl x1, .inl (iOr x2 (iShl 1 x5)), .inl x3, .inl x4, .inl (wI (x5 + 1))] [] h6_)))))) := by
  refine (R_iload zf282_31 rfl rfl).trans ?_
  refine (R_aload_n zf282_33 rfl zlt_97 rfl).trans ?_
  refine (R_getI zf282_34 zo_282 zfl_12_294 zk1_97 zft_12_26 rfl).trans ?_
  refine (R_icmp_ge (t := 79) zf282_37 rfl rfl).trans ?_
  refine ite_congr rfl (fun c1_ => ?_) (fun c1_ => ?_)
  · refine (R_iinc (ls' := [.inr (.inr (.inl 97)), z0, .inl x1, .inl x2, .inl x3, .inl (wI (x4 + 1)), .inl x5]) zf282_79 rfl rfl rfl).trans ?_
    refine (R_goto (t := 19) zf282_82 rfl).trans ?_
    rfl
  · refine (R_iload_n zf282_40 rfl rfl).trans ?_
    refine (R_iload zf282_41 rfl rfl).trans ?_
    refine (R_callI zf282_43 zo_282 zsl_12_229 (by rw [zr_192]; rfl) zl_192 (Nat.le_of_ble_eq_true rfl) rfl rfl (Nat.le_of_ble_eq_true rfl) (Nat.le_of_ble_eq_true rfl) (es := [.inl x2, .inl x4]) rfl rfl).trans ?_
    refine congrArg (cI _) (funext fun a3_ => funext fun h2_ => ?_)
    refine (R_if_eq (t := 79) zf282_46 rfl rfl).trans ?_
    refine ite_congr rfl (fun c4_ => ?_) (fun c4_ => ?_)
    · refine (R_iinc (ls' := [.inr (.inr (.inl 97)), z0, .inl x1, .inl x2, .inl x3, .inl (wI (x4 + 1)), .inl x5]) zf282_79 rfl rfl rfl).trans ?_
      refine (R_goto (t := 19) zf282_82 rfl).trans ?_
      rfl
    · refine (R_iload zf282_49 rfl rfl).trans ?_
      refine (R_iload_n zf282_51 rfl rfl).trans ?_
      refine (R_icmp_eq (t := 73) zf282_52 rfl rfl).trans ?_
      refine ite_congr rfl (fun c5_ => ?_) (fun c5_ => ?_)
      · refine (R_iinc (ls' := [.inr (.inr (.inl 97)), z0, .inl x1, .inl x2, .inl x3, .inl x4, .inl (wI (x5 + 1))]) zf282_73 rfl rfl rfl).trans ?_
        refine (R_goto (t := 31) zf282_76 rfl).trans ?_
        rfl
      · refine (R_aload_n zf282_55 rfl zlt_97 rfl).trans ?_
        refine (R_iload zf282_56 rfl rfl).trans ?_
        refine (R_iload zf282_58 rfl rfl).trans ?_
        refine (R_vcallI zf282_60 zo_282 zvl_12_494 (by rw [zr_283]; rfl) zl_283 (Nat.le_of_ble_eq_true rfl) rfl rfl (Nat.le_of_ble_eq_true rfl) (Nat.le_of_ble_eq_true rfl) (es := [.inr (.inr (.inl 97)), .inl x4, .inl x5, vU]) rfl rfl zk1_97 zo_283).trans ?_
        refine congrArg (cI _) (funext fun a7_ => funext fun h6_ => ?_)
        refine (R_if_eq (t := 73) zf282_63 rfl rfl).trans ?_
        refine ite_congr rfl (fun c8_ => ?_) (fun c8_ => ?_)
        · refine (R_iinc (ls' := [.inr (.inr (.inl 97)), z0, .inl x1, .inl x2, .inl x3, .inl x4, .inl (wI (x5 + 1))]) zf282_73 rfl rfl rfl).trans ?_
          refine (R_goto (t := 31) zf282_76 rfl).trans ?_
          rfl
        · refine (R_iload_n zf282_66 rfl rfl).trans ?_
          refine (R_iconst zf282_67 zw_1 rfl).trans ?_
          refine (R_iload zf282_68 rfl rfl).trans ?_
          refine (R_ishl zf282_70 rfl).trans ?_
          refine (R_ior zf282_71 rfl).trans ?_
          refine (R_istore_n (ls' := [.inr (.inr (.inl 97)), z0, .inl x1, .inl (iOr x2 (iShl 1 x5)), .inl x3, .inl x4, .inl x5]) zf282_72 (Nat.le_of_ble_eq_true rfl) rfl rfl).trans ?_
          refine (R_iinc (ls' := [.inr (.inr (.inl 97)), z0, .inl x1, .inl (iOr x2 (iShl 1 x5)), .inl x3, .inl x4, .inl (wI (x5 + 1))]) zf282_73 rfl rfl rfl).trans ?_
          refine (R_goto (t := 31) zf282_76 rfl).trans ?_
          rfl
-- CannonPostModel.weightFor(I)J at 5
theorem q292_5 (d : Nat) (x0 : Int) (x1 : Int) (z2 : MV) (hz2 : cat z2 = 1) (x3 : Int) (z4 : MV) (hz4 : cat z4 = 1) (h : MH) : Run d 292 5 [.inr (.inr (.inl 97)), .inl x0, .inr (.inl x1), z2, .inl x3, z4] [] h = (if (h 97 49) ≤ x3 then some (some (.inr (.inl x1)), h) else (if 0 ≤ x3 ∧ x3 < 12 then (if ¬ (h 117 x3.toNat) = x0 then Run d 292 31 [.inr (.inr (.inl 97)), .inl x0, .inr (.inl x1), z2, .inl x3, z4] [.inl 3] h else Run d 292 31 [.inr (.inr (.inl 97)), .inl x0, .inr (.inl x1), z2, .inl x3, z4] [.inl 8] h) else none)) := by
  refine (R_iload zf292_5 rfl rfl).trans ?_
  refine (R_aload_n zf292_7 rfl zlt_97 rfl).trans ?_
  refine (R_getI zf292_8 zo_292 zfl_12_306 zk1_97 zft_12_49 rfl).trans ?_
  refine (R_icmp_ge (t := 64) zf292_11 rfl rfl).trans ?_
  refine ite_congr rfl (fun c1_ => ?_) (fun c1_ => ?_)
  · refine (R_lload_n zf292_64 rfl rfl).trans ?_
    exact R_lreturn zf292_65 zr_292
  · refine (R_aload_n zf292_14 rfl zlt_97 rfl).trans ?_
    refine (R_getR zf292_15 zo_292 zfl_12_86 zk1_97 zft_12_47 zmr_97_47 rfl).trans ?_
    refine (R_iload zf292_18 rfl rfl).trans ?_
    refine (R_iald zf292_20 zk_117 rfl).trans ?_
    refine ite_congr rfl (fun c2_ => ?_) (fun _ => rfl)
    refine (R_iload_n zf292_21 rfl rfl).trans ?_
    refine (R_icmp_ne (t := 30) zf292_22 rfl rfl).trans ?_
    refine ite_congr rfl (fun c3_ => ?_) (fun c3_ => ?_)
    · refine (R_iconst zf292_30 zw_3 rfl).trans ?_
      rfl
    · refine (R_bipush zf292_25 zb_8 rfl).trans ?_
      refine (R_goto (t := 31) zf292_27 rfl).trans ?_
      rfl
-- CannonPostModel.goHour([I)V at 48
theorem q247_48_1 (d : Nat) (x0 : Int) (h : MH) : Run (d + 1) 247 48 [.inr (.inr (.inl 97)), .inr (.inr (.inl 111)), .inl x0] [] h = (if (h 97 26) ≤ x0 then some (none, h) else (if ¬ ((h 111 35).tmod 4) = 0 then some (none, h) else (if 0 ≤ (wI (0 + x0)) ∧ (wI (0 + x0)) < 277 then (if 0 ≤ (wI (0 + x0)) ∧ (wI (0 + x0)) < 277 then Run (d + 1) 247 48 [.inr (.inr (.inl 97)), .inr (.inr (.inl 111)), .inl (wI (x0 + 1))] [] (up h 111 (wI (0 + x0)).toNat (mn 9 (wI ((h 111 (wI (0 + x0)).toNat) + 1)))) else none) else none))) := by
  refine (R_iload_n zf247_48 rfl rfl).trans ?_
  refine (R_aload_n zf247_49 rfl zlt_97 rfl).trans ?_
  refine (R_getI zf247_50 zo_247 zfl_12_294 zk1_97 zft_12_26 rfl).trans ?_
  refine (R_icmp_ge (t := 88) zf247_53 rfl rfl).trans ?_
  refine ite_congr rfl (fun c1_ => ?_) (fun c1_ => ?_)
  · exact R_return zf247_88 zr_247
  · refine (R_aload_n zf247_56 rfl zlt_111 rfl).trans ?_
    refine (R_bipush zf247_57 zb_35 rfl).trans ?_
    refine (R_ialdc zf247_59 zk_111 (by decide) rfl rfl).trans ?_
    refine (R_iconst zf247_60 zw_4 rfl).trans ?_
    refine (R_irem zf247_61 (by decide) rfl).trans ?_
    refine (R_if_ne (t := 88) zf247_62 rfl rfl).trans ?_
    refine ite_congr rfl (fun c2_ => ?_) (fun c2_ => ?_)
    · exact R_return zf247_88 zr_247
    · refine (R_aload_n zf247_65 rfl zlt_111 rfl).trans ?_
      refine (R_iconst zf247_66 zw_0 rfl).trans ?_
      refine (R_iload_n zf247_67 rfl rfl).trans ?_
      refine (R_iadd zf247_68 rfl).trans ?_
      refine (R_bipush zf247_69 zb_9 rfl).trans ?_
      refine (R_aload_n zf247_71 rfl zlt_111 rfl).trans ?_
      refine (R_iconst zf247_72 zw_0 rfl).trans ?_
      refine (R_iload_n zf247_73 rfl rfl).trans ?_
      refine (R_iadd zf247_74 rfl).trans ?_
      refine (R_iald zf247_75 zk_111 rfl).trans ?_
      refine ite_congr rfl (fun c3_ => ?_) (fun _ => rfl)
      refine (R_iconst zf247_76 zw_1 rfl).trans ?_
      refine (R_iadd zf247_77 rfl).trans ?_
      refine (R_mmin zf247_78 zo_247 zsl_12_318 zml_12_318 zna_12_318 (Nat.le_of_ble_eq_true rfl) rfl).trans ?_
      refine (R_iast zf247_81 zk_111 rfl).trans ?_
      refine ite_congr rfl (fun c4_ => ?_) (fun _ => rfl)
      refine (R_iinc (ls' := [.inr (.inr (.inl 97)), .inr (.inr (.inl 111)), .inl (wI (x0 + 1))]) zf247_82 rfl rfl rfl).trans ?_
      refine (R_goto (t := 48) zf247_85 rfl).trans ?_
      rfl
-- CannonPost$LeagueReader.readClause()Z at 54
theorem q7_54 (d : Nat) (x0 : Int) (z1 : MV) (hz1 : cat z1 = 1) (h : MH) : Run (d + 1) 7 54 [.inr (.inr (.inl 3)), .inl x0, z1] [] h = (if ¬ x0 = 102 then Run (d + 1) 7 124 [.inr (.inr (.inl 3)), .inl x0, z1] [] h else (if 8 ≤ (h 4 3) then Run (d + 1) 7 124 [.inr (.inr (.inl 3)), .inl x0, z1] [] h else (cI (Run d 9 0 [.inr (.inr (.inl 3)), .inr (.inr (.inl 20)), .inl (wI (((up h 1 2 (wI ((h 1 2) + 1))) 4 3) * 3)), .inl 4, .inl 7, vU, vU, vU, vU] [] (up (up h 1 2 (wI ((h 1 2) + 1))) 4 3 (wI (((up h 1 2 (wI ((h 1 2) + 1))) 4 3) + 1)))) fun a4_ h3_ => (if a4_ = 0 ∨ a4_ = 1 then some (some (.inl a4_), h3_) else none)))) := by
  refine (R_iload_n zf7_54 rfl rfl).trans ?_
  refine (R_bipush zf7_55 zb_102 rfl).trans ?_
  refine (R_icmp_ne (t := 124) zf7_57 rfl rfl).trans ?_
  refine ite_congr rfl (fun c1_ => ?_) (fun c1_ => ?_)
  · rfl
  · refine (R_aload_n zf7_60 rfl zlt_3 rfl).trans ?_
    refine (R_getR zf7_61 zo_7 zfl_6_12 zk1_3 zft_6_0 zmr_3_0 rfl).trans ?_
    refine (R_getI zf7_64 zo_7 zfl_6_36 zk1_4 zft_5_3 rfl).trans ?_
    refine (R_bipush zf7_67 zb_8 rfl).trans ?_
    refine (R_icmp_ge (t := 124) zf7_69 rfl rfl).trans ?_
    refine ite_congr rfl (fun c2_ => ?_) (fun c2_ => ?_)
    · rfl
    · refine (R_aload_n zf7_72 rfl zlt_3 rfl).trans ?_
      refine (R_getR zf7_73 zo_7 zfl_6_18 zk1_3 zft_6_1 zmr_3_1 rfl).trans ?_
      refine (R_dup zf7_76 rfl rfl).trans ?_
      refine (R_getI zf7_77 zo_7 zfl_6_22 zk1_1 zft_10_2 rfl).trans ?_
      refine (R_iconst zf7_80 zw_1 rfl).trans ?_
      refine (R_iadd zf7_81 rfl).trans ?_
      refine (R_putI zf7_82 zo_7 zfl_6_22 zk1_1 zft_10_2 rfl).trans ?_
      refine (R_aload_n zf7_85 rfl zlt_3 rfl).trans ?_
      refine (R_getR zf7_86 zo_7 zfl_6_12 zk1_3 zft_6_0 zmr_3_0 rfl).trans ?_
      refine (R_getI zf7_89 zo_7 zfl_6_36 zk1_4 zft_5_3 rfl).trans ?_
      refine (R_iconst zf7_92 zw_3 rfl).trans ?_
      refine (R_imul zf7_93 rfl).trans ?_
      refine (R_istore_n (ls' := [.inr (.inr (.inl 3)), .inl x0, .inl (wI (((up h 1 2 (wI ((h 1 2) + 1))) 4 3) * 3))]) zf7_94 (Nat.le_of_ble_eq_true rfl) rfl rfl).trans ?_
      refine (R_aload_n zf7_95 rfl zlt_3 rfl).trans ?_
      refine (R_getR zf7_96 zo_7 zfl_6_12 zk1_3 zft_6_0 zmr_3_0 rfl).trans ?_
      refine (R_dup zf7_99 rfl rfl).trans ?_
      refine (R_getI zf7_100 zo_7 zfl_6_36 zk1_4 zft_5_3 rfl).trans ?_
      refine (R_iconst zf7_103 zw_1 rfl).trans ?_
      refine (R_iadd zf7_104 rfl).trans ?_
      refine (R_putI zf7_105 zo_7 zfl_6_36 zk1_4 zft_5_3 rfl).trans ?_
      refine (R_aload_n zf7_108 rfl zlt_3 rfl).trans ?_
      refine (R_aload_n zf7_109 rfl zlt_3 rfl).trans ?_
      refine (R_getR zf7_110 zo_7 zfl_6_12 zk1_3 zft_6_0 zmr_3_0 rfl).trans ?_
      refine (R_getR zf7_113 zo_7 zfl_6_73 zk1_4 zft_5_1 zmr_4_1 rfl).trans ?_
      refine (R_iload_n zf7_116 rfl rfl).trans ?_
      refine (R_iconst zf7_117 zw_4 rfl).trans ?_
      refine (R_bipush zf7_118 zb_7 rfl).trans ?_
      refine (R_vcallI zf7_120 zo_7 zvl_6_69 (by rw [zr_9]; rfl) zl_9 (Nat.le_of_ble_eq_true rfl) rfl rfl (Nat.le_of_ble_eq_true rfl) (Nat.le_of_ble_eq_true rfl) (es := [.inr (.inr (.inl 3)), .inr (.inr (.inl 20)), .inl (wI (((up h 1 2 (wI ((h 1 2) + 1))) 4 3) * 3)), .inl 4, .inl 7, vU, vU, vU, vU]) rfl rfl zk1_3 zo_9).trans ?_
      refine congrArg (cI _) (funext fun a4_ => funext fun h3_ => ?_)
      exact R_ireturn_z zf7_123 zr_7
-- CannonPost$LeagueReader.readItems([IIII)Z at 0
theorem q9_0 (d : Nat) (x0 : Int) (x1 : Int) (x2 : Int) (h : MH) : Run (d + 1) 9 0 [.inr (.inr (.inl 3)), .inr (.inr (.inl 19)), .inl x0, .inl x1, .inl x2, vU, vU, vU, vU] [] h = (if (0 : Int) ≤ (wI (x2 - x1)) ∧ (0 : Int) ≤ x0 ∧ (0 : Int) ≤ x1 ∧ (x0 + (wI (x2 - x1)) : Int) ≤ 4 ∧ (x1 + (wI (x2 - x1)) : Int) ≤ 10 then Run (d + 1) 9 19 [.inr (.inr (.inl 3)), .inr (.inr (.inl 19)), .inl x0, .inl x1, .inl x2, .inl 0, .inl 0, vU, vU] [] (cpy h (ro 121) 19 x1.toNat x0.toNat (wI (x2 - x1)).toNat) else none) := by
  refine (R_getsR zf9_0 zo_9 zgl_6_42 rfl).trans ?_
  refine (R_iload_n zf9_3 rfl rfl).trans ?_
  refine (R_aload_n zf9_4 rfl zlt_19 rfl).trans ?_
  refine (R_iload_n zf9_5 rfl rfl).trans ?_
  refine (R_iload zf9_6 rfl rfl).trans ?_
  refine (R_iload_n zf9_8 rfl rfl).trans ?_
  refine (R_isub zf9_9 rfl).trans ?_
  refine (R_acpyR zf9_10 zo_9 zsl_6_49 zal_6_49 zk_121 zk_19 (Nat.le_of_ble_eq_true rfl) rfl).trans ?_
  refine ite_congr rfl (fun c1_ => ?_) (fun _ => rfl)
  refine (R_iconst zf9_13 zw_0 rfl).trans ?_
  refine (R_istore (ls' := [.inr (.inr (.inl 3)), .inr (.inr (.inl 19)), .inl x0, .inl x1, .inl x2, .inl 0, vU, vU, vU]) zf9_14 (Nat.le_of_ble_eq_true rfl) rfl rfl).trans ?_
  refine (R_iconst zf9_16 zw_0 rfl).trans ?_
  refine (R_istore (ls' := [.inr (.inr (.inl 3)), .inr (.inr (.inl 19)), .inl x0, .inl x1, .inl x2, .inl 0, .inl 0, vU, vU]) zf9_17 (Nat.le_of_ble_eq_true rfl) rfl rfl).trans ?_
  rfl
-- CannonPost$League.isWhole()Z at 20
theorem q17_20 (d : Nat) (x0 : Int) (z1 : MV) (hz1 : cat z1 = 1) (h : MH) : Run (d + 1) 17 20 [.inr (.inr (.inl 4)), .inl x0, z1] [] h = (if (h 4 3) ≤ x0 then Run (d + 1) 17 64 [.inr (.inr (.inl 4)), .inl 0, z1] [] h else Run (d + 1) 17 30 [.inr (.inr (.inl 4)), .inl x0, .inl 0] [] h) := by
  refine (R_iload_n zf17_20 rfl rfl).trans ?_
  refine (R_aload_n zf17_21 rfl zlt_4 rfl).trans ?_
  refine (R_getI zf17_22 zo_17 zfl_5_27 zk1_4 zft_5_3 rfl).trans ?_
  refine (R_icmp_ge (t := 62) zf17_25 rfl rfl).trans ?_
  refine ite_congr rfl (fun c1_ => ?_) (fun c1_ => ?_)
  · refine (R_iconst zf17_62 zw_0 rfl).trans ?_
    refine (R_istore_n (ls' := [.inr (.inr (.inl 4)), .inl 0, z1]) zf17_63 (Nat.le_of_ble_eq_true rfl) rfl rfl).trans ?_
    rfl
  · refine (R_iconst zf17_28 zw_0 rfl).trans ?_
    refine (R_istore_n (ls' := [.inr (.inr (.inl 4)), .inl x0, .inl 0]) zf17_29 (Nat.le_of_ble_eq_true rfl) rfl rfl).trans ?_
    rfl
-- CannonPost$LawReader.readClause()Z at 93
theorem q23_93 (d : Nat) (z0 : MV) (hz0 : cat z0 = 1) (x1 : Int) (z2 : MV) (hz2 : cat z2 = 1) (h : MH) : Run (d + 1) 23 93 [.inr (.inr (.inl 5)), z0, .inl x1, z2] [] h = (cI (Run d 36 0 [.inr (.inr (.inl 5)), .inl 0, .inl x1, vU, vU, vU] [] h) fun a2_ h1_ => (if a2_ = 0 then some (some (.inl 0), h1_) else (cI (Run d 21 0 [.inr (.inr (.inl 1)), .inl 63] [] h1_) fun a5_ h4_ => (if ¬ a5_ = 0 then (cV (Run d 33 0 [.inr (.inr (.inl 5)), .inl 12, .inl 0] [] h4_) fun h7_ => (cI (Run d 24 0 [.inr (.inr (.inl 5)), .inl 0, vU, vU, vU, vU] [] h7_) fun a9_ h8_ => (if ¬ a9_ = 0 then (cV (Run d 33 0 [.inr (.inr (.inl 5)), .inl 13, .inl 0] [] h8_) fun h11_ => (if 240 ≤ (h4_ 5 1) then some (some (.inl 1), h11_) else (if 0 ≤ (h4_ 5 1) ∧ (h4_ 5 1) < 240 then some (some (.inl 1), (up h11_ 22 (h4_ 5 1).toNat (wI ((wI ((h11_ 5 1) * 16)) + 12)))) else none))) else some (some (.inl 0), h8_)))) else some (some (.inl 0), h4_))))) := by
  refine (R_aload_n zf23_93 rfl zlt_5 rfl).trans ?_
  refine (R_iconst zf23_94 zw_0 rfl).trans ?_
  refine (R_iload_n zf23_95 rfl rfl).trans ?_
  refine (R_vcallI zf23_96 zo_23 zvl_3_54 (by rw [zr_36]; rfl) zl_36 (Nat.le_of_ble_eq_true rfl) rfl rfl (Nat.le_of_ble_eq_true rfl) (Nat.le_of_ble_eq_true rfl) (es := [.inr (.inr (.inl 5)), .inl 0, .inl x1, vU, vU, vU]) rfl rfl zk1_5 zo_36).trans ?_
  refine congrArg (cI _) (funext fun a2_ => funext fun h1_ => ?_)
  refine (R_if_eq (t := 114) zf23_99 rfl rfl).trans ?_
  refine ite_congr rfl (fun c3_ => ?_) (fun c3_ => ?_)
  · refine (R_iconst zf23_114 zw_0 rfl).trans ?_
    exact R_ireturn zf23_115 (by rw [zr_23]; rfl)
  · refine (R_aload_n zf23_102 rfl zlt_5 rfl).trans ?_
    refine (R_getR zf23_103 zo_23 zfl_3_17 zk1_5 zft_3_2 zmr_5_2 rfl).trans ?_
    refine (R_bipush zf23_106 zb_63 rfl).trans ?_
    refine (R_vcallI zf23_108 zo_23 zvl_3_36 (by rw [zr_21]; rfl) zl_21 (Nat.le_of_ble_eq_true rfl) rfl rfl (Nat.le_of_ble_eq_true rfl) (Nat.le_of_ble_eq_true rfl) (es := [.inr (.inr (.inl 1)), .inl 63]) rfl rfl zk1_1 zo_21).trans ?_
    refine congrArg (cI _) (funext fun a5_ => funext fun h4_ => ?_)
    refine (R_if_ne (t := 116) zf23_111 rfl rfl).trans ?_
    refine ite_congr rfl (fun c6_ => ?_) (fun c6_ => ?_)
    · refine (R_aload_n zf23_116 rfl zlt_5 rfl).trans ?_
      refine (R_getI zf23_117 zo_23 zfl_3_25 zk1_5 zft_3_1 rfl).trans ?_
      refine (R_istore_n (ls' := [.inr (.inr (.inl 5)), z0, .inl x1, .inl (h4_ 5 1)]) zf23_120 (Nat.le_of_ble_eq_true rfl) rfl rfl).trans ?_
      refine (R_aload_n zf23_121 rfl zlt_5 rfl).trans ?_
      refine (R_bipush zf23_122 zb_12 rfl).trans ?_
      refine (R_iconst zf23_124 zw_0 rfl).trans ?_
      refine (R_vcallV zf23_125 zo_23 zvl_3_50 zr_33 zl_33 (Nat.le_of_ble_eq_true rfl) rfl rfl (Nat.le_of_ble_eq_true rfl) (Nat.le_of_ble_eq_true rfl) (es := [.inr (.inr (.inl 5)), .inl 12, .inl 0]) rfl rfl zk1_5 zo_33).trans ?_
      refine congrArg (cV _) (funext fun h7_ => ?_)
      refine (R_aload_n zf23_128 rfl zlt_5 rfl).trans ?_
      refine (R_iconst zf23_129 zw_0 rfl).trans ?_
      refine (R_vcallI zf23_130 zo_23 zvl_3_40 (by rw [zr_24]; rfl) zl_24 (Nat.le_of_ble_eq_true rfl) rfl rfl (Nat.le_of_ble_eq_true rfl) (Nat.le_of_ble_eq_true rfl) (es := [.inr (.inr (.inl 5)), .inl 0, vU, vU, vU, vU]) rfl rfl zk1_5 zo_24).trans ?_
      refine congrArg (cI _) (funext fun a9_ => funext fun h8_ => ?_)
      refine (R_if_ne (t := 138) zf23_133 rfl rfl).trans ?_
      refine ite_congr rfl (fun c10_ => ?_) (fun c10_ => ?_)
      · refine (R_aload_n zf23_138 rfl zlt_5 rfl).trans ?_
        refine (R_bipush zf23_139 zb_13 rfl).trans ?_
        refine (R_iconst zf23_141 zw_0 rfl).trans ?_
        refine (R_vcallV zf23_142 zo_23 zvl_3_50 zr_33 zl_33 (Nat.le_of_ble_eq_true rfl) rfl rfl (Nat.le_of_ble_eq_true rfl) (Nat.le_of_ble_eq_true rfl) (es := [.inr (.inr (.inl 5)), .inl 13, .inl 0]) rfl rfl zk1_5 zo_33).trans ?_
        refine congrArg (cV _) (funext fun h11_ => ?_)
        refine (R_iload_n zf23_145 rfl rfl).trans ?_
        refine (R_aload_n zf23_146 rfl zlt_5 rfl).trans ?_
        refine (R_getR zf23_147 zo_23 zfl_3_11 zk1_5 zft_3_0 zmr_5_0 rfl).trans ?_
        refine (R_len100 (v := 240) zf23_150 zk_22 rfl rfl).trans ?_
        refine (R_icmp_ge (t := 170) zf23_151 rfl rfl).trans ?_
        refine ite_congr rfl (fun c12_ => ?_) (fun c12_ => ?_)
        · refine (R_iconst zf23_170 zw_1 rfl).trans ?_
          exact R_ireturn zf23_171 (by rw [zr_23]; rfl)
        · refine (R_aload_n zf23_154 rfl zlt_5 rfl).trans ?_
          refine (R_getR zf23_155 zo_23 zfl_3_11 zk1_5 zft_3_0 zmr_5_0 rfl).trans ?_
          refine (R_iload_n zf23_158 rfl rfl).trans ?_
          refine (R_aload_n zf23_159 rfl zlt_5 rfl).trans ?_
          refine (R_getI zf23_160 zo_23 zfl_3_25 zk1_5 zft_3_1 rfl).trans ?_
          refine (R_bipush zf23_163 zb_16 rfl).trans ?_
          refine (R_imul zf23_165 rfl).trans ?_
          refine (R_bipush zf23_166 zb_12 rfl).trans ?_
          refine (R_iadd zf23_168 rfl).trans ?_
          refine (R_iast zf23_169 zk_22 rfl).trans ?_
          refine ite_congr rfl (fun c13_ => ?_) (fun _ => rfl)
          refine (R_iconst zf23_170 zw_1 rfl).trans ?_
          exact R_ireturn zf23_171 (by rw [zr_23]; rfl)
      · refine (R_iconst zf23_136 zw_0 rfl).trans ?_
        exact R_ireturn zf23_137 (by rw [zr_23]; rfl)
    · refine (R_iconst zf23_114 zw_0 rfl).trans ?_
      exact R_ireturn zf23_115 (by rw [zr_23]; rfl)
-- CannonPost$LawReader.comparing(I)I at 0
theorem q35_0 (d : Nat) (x0 : Int) (h : MH) : Run d 35 0 [.inl x0] [] h = (if x0 = 60 then some (some (.inl 7), h) else (if x0 = 61 then some (some (.inl 6), h) else (if x0 = 62 then some (some (.inl 8), h) else some (some (.inl (-1)), h)))) := by
  refine (R_iload_n zf35_0 rfl rfl).trans ?_
  refine (switch_if (c := x0 = 60) (fun c1_ => ?_) (fun c1_ => ?_))
  · refine (R_tsw (t := 31) zf35_1 (by omega) (by rw [c1_]; rfl) rfl).trans ?_
    refine (R_bipush zf35_31 zb_7 rfl).trans ?_
    exact R_ireturn_i zf35_33 zr_35
  refine (switch_if (c := x0 = 61) (fun c2_ => ?_) (fun c2_ => ?_))
  · refine (R_tsw (t := 28) zf35_1 (by omega) (by rw [c2_]; rfl) rfl).trans ?_
    refine (R_bipush zf35_28 zb_6 rfl).trans ?_
    exact R_ireturn_i zf35_30 zr_35
  refine (switch_if (c := x0 = 62) (fun c3_ => ?_) (fun c3_ => ?_))
  · refine (R_tsw (t := 34) zf35_1 (by omega) (by rw [c3_]; rfl) rfl).trans ?_
    refine (R_bipush zf35_34 zb_8 rfl).trans ?_
    exact R_ireturn_i zf35_36 zr_35
  refine (R_tswD (t := 37) zf35_1 (by omega) rfl).trans ?_
  refine (R_iconst zf35_37 zw_m1 rfl).trans ?_
  exact R_ireturn_i zf35_38 zr_35
-- CannonPost$LawReader.write(II)V at 0
theorem q33_0 (d : Nat) (x0 : Int) (x1 : Int) (h : MH) : Run d 33 0 [.inr (.inr (.inl 5)), .inl x0, .inl x1] [] h = (if 240 ≤ (h 5 1) then some (none, h) else (if 0 ≤ (h 5 1) ∧ (h 5 1) < 240 then some (none, (up (up h 22 (h 5 1).toNat (wI ((wI (x1 * 16)) + x0))) 5 1 (wI (((up h 22 (h 5 1).toNat (wI ((wI (x1 * 16)) + x0))) 5 1) + 1)))) else none)) := by
  refine (R_aload_n zf33_0 rfl zlt_5 rfl).trans ?_
  refine (R_getI zf33_1 zo_33 zfl_3_25 zk1_5 zft_3_1 rfl).trans ?_
  refine (R_aload_n zf33_4 rfl zlt_5 rfl).trans ?_
  refine (R_getR zf33_5 zo_33 zfl_3_11 zk1_5 zft_3_0 zmr_5_0 rfl).trans ?_
  refine (R_len100 (v := 240) zf33_8 zk_22 rfl rfl).trans ?_
  refine (R_icmp_ge (t := 37) zf33_9 rfl rfl).trans ?_
  refine ite_congr rfl (fun c1_ => ?_) (fun c1_ => ?_)
  · exact R_return zf33_37 zr_33
  · refine (R_aload_n zf33_12 rfl zlt_5 rfl).trans ?_
    refine (R_getR zf33_13 zo_33 zfl_3_11 zk1_5 zft_3_0 zmr_5_0 rfl).trans ?_
    refine (R_aload_n zf33_16 rfl zlt_5 rfl).trans ?_
    refine (R_getI zf33_17 zo_33 zfl_3_25 zk1_5 zft_3_1 rfl).trans ?_
    refine (R_iload_n zf33_20 rfl rfl).trans ?_
    refine (R_bipush zf33_21 zb_16 rfl).trans ?_
    refine (R_imul zf33_23 rfl).trans ?_
    refine (R_iload_n zf33_24 rfl rfl).trans ?_
    refine (R_iadd zf33_25 rfl).trans ?_
    refine (R_iast zf33_26 zk_22 rfl).trans ?_
    refine ite_congr rfl (fun c2_ => ?_) (fun _ => rfl)
    refine (R_aload_n zf33_27 rfl zlt_5 rfl).trans ?_
    refine (R_dup zf33_28 rfl rfl).trans ?_
    refine (R_getI zf33_29 zo_33 zfl_3_25 zk1_5 zft_3_1 rfl).trans ?_
    refine (R_iconst zf33_32 zw_1 rfl).trans ?_
    refine (R_iadd zf33_33 rfl).trans ?_
    refine (R_putI zf33_34 zo_33 zfl_3_25 zk1_5 zft_3_1 rfl).trans ?_
    exact R_return zf33_37 zr_33
-- CannonPost$LawReader.readSum(I)Z at 0
theorem q24_0 (d : Nat) (x0 : Int) (h : MH) : Run (d + 1) 24 0 [.inr (.inr (.inl 5)), .inl x0, vU, vU, vU, vU] [] h = (cI (Run d 25 0 [.inr (.inr (.inl 5)), .inl x0, vU, vU, vU] [] h) fun a2_ h1_ => (if ¬ a2_ = 0 then Run (d + 1) 24 14 [.inr (.inr (.inl 5)), .inl x0, .inl (-1), .inl 0, vU, vU] [] h1_ else some (some (.inl 0), h1_))) := by
  refine (R_iconst zf24_0 zw_m1 rfl).trans ?_
  refine (R_istore_n (ls' := [.inr (.inr (.inl 5)), .inl x0, .inl (-1), vU, vU, vU]) zf24_1 (Nat.le_of_ble_eq_true rfl) rfl rfl).trans ?_
  refine (R_aload_n zf24_2 rfl zlt_5 rfl).trans ?_
  refine (R_iload_n zf24_3 rfl rfl).trans ?_
  refine (R_vcallI zf24_4 zo_24 zvl_3_61 (by rw [zr_25]; rfl) zl_25 (Nat.le_of_ble_eq_true rfl) rfl rfl (Nat.le_of_ble_eq_true rfl) (Nat.le_of_ble_eq_true rfl) (es := [.inr (.inr (.inl 5)), .inl x0, vU, vU, vU]) rfl rfl zk1_5 zo_25).trans ?_
  refine congrArg (cI _) (funext fun a2_ => funext fun h1_ => ?_)
  refine (R_if_ne (t := 12) zf24_7 rfl rfl).trans ?_
  refine ite_congr rfl (fun c3_ => ?_) (fun c3_ => ?_)
  · refine (R_iconst zf24_12 zw_0 rfl).trans ?_
    refine (R_istore_n (ls' := [.inr (.inr (.inl 5)), .inl x0, .inl (-1), .inl 0, vU, vU]) zf24_13 (Nat.le_of_ble_eq_true rfl) rfl rfl).trans ?_
    rfl
  · refine (R_iconst zf24_10 zw_0 rfl).trans ?_
    exact R_ireturn zf24_11 (by rw [zr_24]; rfl)
-- CannonPost$Tape.digit(I)I at 0
theorem q42_0 (d : Nat) (x0 : Int) (h : MH) : Run (d + 1) 42 0 [.inr (.inr (.inl 1)), .inl x0, vU] [] h = (cI (Run d 8 0 [.inr (.inr (.inl 1))] [] h) fun a2_ h1_ => (if (wI (a2_ - 48)) < 0 then some (some (.inl (-1)), h1_) else (if (wI (a2_ - 48)) ≤ x0 then some (some (.inl (wI (a2_ - 48))), (up h1_ 1 2 (wI ((h1_ 1 2) + 1)))) else some (some (.inl (-1)), h1_)))) := by
  refine (R_aload_n zf42_0 rfl zlt_1 rfl).trans ?_
  refine (R_vcallI zf42_1 zo_42 zvl_10_22 (by rw [zr_8]; rfl) zl_8 (Nat.le_of_ble_eq_true rfl) rfl rfl (Nat.le_of_ble_eq_true rfl) (Nat.le_of_ble_eq_true rfl) (es := [.inr (.inr (.inl 1))]) rfl rfl zk1_1 zo_8).trans ?_
  refine congrArg (cI _) (funext fun a2_ => funext fun h1_ => ?_)
  refine (R_bipush zf42_4 zb_48 rfl).trans ?_
  refine (R_isub zf42_6 rfl).trans ?_
  refine (R_istore_n (ls' := [.inr (.inr (.inl 1)), .inl x0, .inl (wI (a2_ - 48))]) zf42_7 (Nat.le_of_ble_eq_true rfl) rfl rfl).trans ?_
  refine (R_iload_n zf42_8 rfl rfl).trans ?_
  refine (R_if_lt (t := 17) zf42_9 rfl rfl).trans ?_
  refine ite_congr rfl (fun c3_ => ?_) (fun c3_ => ?_)
  · refine (R_iconst zf42_17 zw_m1 rfl).trans ?_
    exact R_ireturn_i zf42_18 zr_42
  · refine (R_iload_n zf42_12 rfl rfl).trans ?_
    refine (R_iload_n zf42_13 rfl rfl).trans ?_
    refine (R_icmp_le (t := 19) zf42_14 rfl rfl).trans ?_
    refine ite_congr rfl (fun c4_ => ?_) (fun c4_ => ?_)
    · refine (R_aload_n zf42_19 rfl zlt_1 rfl).trans ?_
      refine (R_dup zf42_20 rfl rfl).trans ?_
      refine (R_getI zf42_21 zo_42 zfl_10_19 zk1_1 zft_10_2 rfl).trans ?_
      refine (R_iconst zf42_24 zw_1 rfl).trans ?_
      refine (R_iadd zf42_25 rfl).trans ?_
      refine (R_putI zf42_26 zo_42 zfl_10_19 zk1_1 zft_10_2 rfl).trans ?_
      refine (R_iload_n zf42_29 rfl rfl).trans ?_
      exact R_ireturn_i zf42_30 zr_42
    · refine (R_iconst zf42_17 zw_m1 rfl).trans ?_
      exact R_ireturn_i zf42_18 zr_42
-- CannonPost$League.firstFort(I)I at 0
theorem q19_0 (d : Nat) (x0 : Int) (h : MH) : Run d 19 0 [.inr (.inr (.inl 2)), .inl x0] [] h = (if 0 ≤ (wI ((wI (x0 * 3)) + 2)) ∧ (wI ((wI (x0 * 3)) + 2)) < 15 then some (some (.inl (h 18 (wI ((wI (x0 * 3)) + 2)).toNat)), h) else none) := by
  refine (R_aload_n zf19_0 rfl zlt_2 rfl).trans ?_
  refine (R_getR zf19_1 zo_19 zfl_5_18 zk1_2 zft_5_2 zmr_2_2 rfl).trans ?_
  refine (R_iload_n zf19_4 rfl rfl).trans ?_
  refine (R_iconst zf19_5 zw_3 rfl).trans ?_
  refine (R_imul zf19_6 rfl).trans ?_
  refine (R_iconst zf19_7 zw_2 rfl).trans ?_
  refine (R_iadd zf19_8 rfl).trans ?_
  refine (R_iald zf19_9 zk_18 rfl).trans ?_
  refine ite_congr rfl (fun c1_ => ?_) (fun _ => rfl)
  exact R_ireturn_i zf19_10 zr_19
-- CannonPost.allSayable(LCannonPost$State;I)I at 24
theorem q105_24 (d : Nat) (z0 : MV) (hz0 : cat z0 = 1) (x1 : Int) (x2 : Int) (x3 : Int) (h : MH) : Run (d + 1) 105 24 [.inr (.inr (.inl 0)), .inr (.inr (.inl 12)), z0, .inl x1, .inl x2, .inl x3] [] h = (if 6 ≤ x3 then some (some (.inl x2), h) else (if (iAnd (iShr x1 x3) 1) = 0 then Run (d + 1) 105 24 [.inr (.inr (.inl 0)), .inr (.inr (.inl 12)), z0, .inl x1, .inl x2, .inl (wI (x3 + 1))] [] h else (cI (Run d 76 0 [.inl x2] [] h) fun a4_ h3_ => (cI (Run d 62 0 [.inr (.inr (.inl 2))] [] h3_) fun a6_ h5_ => (if a6_ ≤ a4_ then Run (d + 1) 105 24 [.inr (.inr (.inl 0)), .inr (.inr (.inl 12)), z0, .inl x1, .inl x2, .inl (wI (x3 + 1))] [] h5_ else Run (d + 1) 105 24 [.inr (.inr (.inl 0)), .inr (.inr (.inl 12)), z0, .inl x1, .inl (iOr x2 (iShl 1 x3)), .inl (wI (x3 + 1))] [] h5_))))) := by
  refine (R_iload zf105_24 rfl rfl).trans ?_
  refine (R_bipush zf105_26 zb_6 rfl).trans ?_
  refine (R_icmp_ge (t := 70) zf105_28 rfl rfl).trans ?_
  refine ite_congr rfl (fun c1_ => ?_) (fun c1_ => ?_)
  · refine (R_iload zf105_70 rfl rfl).trans ?_
    exact R_ireturn_i zf105_72 zr_105
  · refine (R_iload_n zf105_31 rfl rfl).trans ?_
    refine (R_iload zf105_32 rfl rfl).trans ?_
    refine (R_ishr zf105_34 rfl).trans ?_
    refine (R_iconst zf105_35 zw_1 rfl).trans ?_
    refine (R_iand zf105_36 rfl).trans ?_
    refine (R_if_eq (t := 64) zf105_37 rfl rfl).trans ?_
    refine ite_congr rfl (fun c2_ => ?_) (fun c2_ => ?_)
    · refine (R_iinc (ls' := [.inr (.inr (.inl 0)), .inr (.inr (.inl 12)), z0, .inl x1, .inl x2, .inl (wI (x3 + 1))]) zf105_64 rfl rfl rfl).trans ?_
      refine (R_goto (t := 24) zf105_67 rfl).trans ?_
      rfl
    · refine (R_iload zf105_40 rfl rfl).trans ?_
      refine (R_callI zf105_42 zo_105 zsl_11_271 (by rw [zr_76]; rfl) zl_76 (Nat.le_of_ble_eq_true rfl) rfl rfl (Nat.le_of_ble_eq_true rfl) (Nat.le_of_ble_eq_true rfl) (es := [.inl x2]) rfl rfl).trans ?_
      refine congrArg (cI _) (funext fun a4_ => funext fun h3_ => ?_)
      refine (R_aload_n zf105_45 rfl zlt_0 rfl).trans ?_
      refine (R_getR zf105_46 zo_105 zfl_11_19 zk1_0 zft_11_1 zmr_0_1 rfl).trans ?_
      refine (R_vcallI zf105_49 zo_105 zvl_11_165 (by rw [zr_62]; rfl) zl_62 (Nat.le_of_ble_eq_true rfl) rfl rfl (Nat.le_of_ble_eq_true rfl) (Nat.le_of_ble_eq_true rfl) (es := [.inr (.inr (.inl 2))]) rfl rfl zk1_2 zo_62).trans ?_
      refine congrArg (cI _) (funext fun a6_ => funext fun h5_ => ?_)
      refine (R_icmp_ge (t := 64) zf105_52 rfl rfl).trans ?_
      refine ite_congr rfl (fun c7_ => ?_) (fun c7_ => ?_)
      · refine (R_iinc (ls' := [.inr (.inr (.inl 0)), .inr (.inr (.inl 12)), z0, .inl x1, .inl x2, .inl (wI (x3 + 1))]) zf105_64 rfl rfl rfl).trans ?_
        refine (R_goto (t := 24) zf105_67 rfl).trans ?_
        rfl
      · refine (R_iload zf105_55 rfl rfl).trans ?_
        refine (R_iconst zf105_57 zw_1 rfl).trans ?_
        refine (R_iload zf105_58 rfl rfl).trans ?_
        refine (R_ishl zf105_60 rfl).trans ?_
        refine (R_ior zf105_61 rfl).trans ?_
        refine (R_istore (ls' := [.inr (.inr (.inl 0)), .inr (.inr (.inl 12)), z0, .inl x1, .inl (iOr x2 (iShl 1 x3)), .inl x3]) zf105_62 (Nat.le_of_ble_eq_true rfl) rfl rfl).trans ?_
        refine (R_iinc (ls' := [.inr (.inr (.inl 0)), .inr (.inr (.inl 12)), z0, .inl x1, .inl (iOr x2 (iShl 1 x3)), .inl (wI (x3 + 1))]) zf105_64 rfl rfl rfl).trans ?_
        refine (R_goto (t := 24) zf105_67 rfl).trans ?_
        rfl
-- CannonPost.allSayable(LCannonPost$State;I)I at 0
theorem q105_0_1 (d : Nat) (x0 : Int) (h : MH) : Run (d + 1) 105 0 [.inr (.inr (.inl 0)), .inr (.inr (.inl 13)), .inl x0, vU, vU, vU] [] h = (if 0 ≤ (wI (6 + x0)) ∧ (wI (6 + x0)) < 37 then (if 0 ≤ (wI (29 + (h 93 (wI (6 + x0)).toNat))) ∧ (wI (29 + (h 93 (wI (6 + x0)).toNat))) < 37 then Run (d + 1) 105 24 [.inr (.inr (.inl 0)), .inr (.inr (.inl 13)), .inl x0, .inl (h 93 (wI (29 + (h 93 (wI (6 + x0)).toNat))).toNat), .inl 0, .inl 0] [] h else none) else none) := by
  refine (R_aload_n zf105_0 rfl zlt_13 rfl).trans ?_
  refine (R_getR zf105_1 zo_105 zfl_11_162 zk1_13 zft_9_0 zmr_13_0 rfl).trans ?_
  refine (R_bipush zf105_4 zb_29 rfl).trans ?_
  refine (R_aload_n zf105_6 rfl zlt_13 rfl).trans ?_
  refine (R_getR zf105_7 zo_105 zfl_11_162 zk1_13 zft_9_0 zmr_13_0 rfl).trans ?_
  refine (R_bipush zf105_10 zb_6 rfl).trans ?_
  refine (R_iload_n zf105_12 rfl rfl).trans ?_
  refine (R_iadd zf105_13 rfl).trans ?_
  refine (R_iald zf105_14 zk_93 rfl).trans ?_
  refine ite_congr rfl (fun c1_ => ?_) (fun _ => rfl)
  refine (R_iadd zf105_15 rfl).trans ?_
  refine (R_iald zf105_16 zk_93 rfl).trans ?_
  refine ite_congr rfl (fun c2_ => ?_) (fun _ => rfl)
  refine (R_istore_n (ls' := [.inr (.inr (.inl 0)), .inr (.inr (.inl 13)), .inl x0, .inl (h 93 (wI (29 + (h 93 (wI (6 + x0)).toNat))).toNat), vU, vU]) zf105_17 (Nat.le_of_ble_eq_true rfl) rfl rfl).trans ?_
  refine (R_iconst zf105_18 zw_0 rfl).trans ?_
  refine (R_istore (ls' := [.inr (.inr (.inl 0)), .inr (.inr (.inl 13)), .inl x0, .inl (h 93 (wI (29 + (h 93 (wI (6 + x0)).toNat))).toNat), .inl 0, vU]) zf105_19 (Nat.le_of_ble_eq_true rfl) rfl rfl).trans ?_
  refine (R_iconst zf105_21 zw_0 rfl).trans ?_
  refine (R_istore (ls' := [.inr (.inr (.inl 0)), .inr (.inr (.inl 13)), .inl x0, .inl (h 93 (wI (29 + (h 93 (wI (6 + x0)).toNat))).toNat), .inl 0, .inl 0]) zf105_22 (Nat.le_of_ble_eq_true rfl) rfl rfl).trans ?_
  rfl
-- CannonPost.fire(LCannonPost$State;IIII)I at 0
theorem q78_0_1 (d : Nat) (x0 : Int) (x1 : Int) (x2 : Int) (x3 : Int) (h : MH) : Run (d + 1) 78 0 [.inr (.inr (.inl 0)), .inr (.inr (.inl 13)), .inl x0, .inl x1, .inl x2, .inl x3, vU, vU] [] h = (if 0 ≤ (wI (6 + x0)) ∧ (wI (6 + x0)) < 37 then (cI (Run d 79 0 [.inr (.inr (.inl 8)), .inr (.inr (.inl 13)), .inl x0, .inl (h 93 (wI (6 + x0)).toNat), .inl x1, .inl x2, vU, vU] [] h) fun a3_ h2_ => (cI (Run d 87 0 [.inr (.inr (.inl 2)), .inl a3_, vU, vU, vU] [] h2_) fun a5_ h4_ => (if ¬ a5_ = (-1) then (cV (Run d 88 0 [.inr (.inr (.inl 13)), .inl x0, .inl a5_, .inl x3] [] (up h4_ 93 0 (wI ((h4_ 93 0) - x1)))) fun h7_ => (cV (Run d 89 0 [.inr (.inr (.inl 13)), .inl x0, .inl (h 93 (wI (6 + x0)).toNat), .inl a5_, .inl x1, vU] [] h7_) fun h8_ => some (some (.inl a5_), h8_))) else (if 0 ≤ (wI (16 + x0)) ∧ (wI (16 + x0)) < 37 then (cV (Run d 89 0 [.inr (.inr (.inl 13)), .inl x0, .inl (h 93 (wI (6 + x0)).toNat), .inl a5_, .inl x1, vU] [] (up (up h4_ 93 0 (wI ((h4_ 93 0) - x1))) 93 (wI (16 + x0)).toNat 2)) fun h10_ => some (some (.inl a5_), h10_)) else none)))) else none) := by
  refine (R_aload_n zf78_0 rfl zlt_13 rfl).trans ?_
  refine (R_getR zf78_1 zo_78 zfl_11_162 zk1_13 zft_9_0 zmr_13_0 rfl).trans ?_
  refine (R_bipush zf78_4 zb_6 rfl).trans ?_
  refine (R_iload_n zf78_6 rfl rfl).trans ?_
  refine (R_iadd zf78_7 rfl).trans ?_
  refine (R_iald zf78_8 zk_93 rfl).trans ?_
  refine ite_congr rfl (fun c1_ => ?_) (fun _ => rfl)
  refine (R_istore (ls' := [.inr (.inr (.inl 0)), .inr (.inr (.inl 13)), .inl x0, .inl x1, .inl x2, .inl x3, .inl (h 93 (wI (6 + x0)).toNat), vU]) zf78_9 (Nat.le_of_ble_eq_true rfl) rfl rfl).trans ?_
  refine (R_aload_n zf78_11 rfl zlt_0 rfl).trans ?_
  refine (R_getR zf78_12 zo_78 zfl_11_19 zk1_0 zft_11_1 zmr_0_1 rfl).trans ?_
  refine (R_aload_n zf78_15 rfl zlt_0 rfl).trans ?_
  refine (R_getR zf78_16 zo_78 zfl_11_58 zk1_0 zft_11_6 zmr_0_6 rfl).trans ?_
  refine (R_aload_n zf78_19 rfl zlt_13 rfl).trans ?_
  refine (R_iload_n zf78_20 rfl rfl).trans ?_
  refine (R_iload zf78_21 rfl rfl).trans ?_
  refine (R_iload_n zf78_23 rfl rfl).trans ?_
  refine (R_iload zf78_24 rfl rfl).trans ?_
  refine (R_vcallI zf78_26 zo_78 zvl_11_279 (by rw [zr_79]; rfl) zl_79 (Nat.le_of_ble_eq_true rfl) rfl rfl (Nat.le_of_ble_eq_true rfl) (Nat.le_of_ble_eq_true rfl) (es := [.inr (.inr (.inl 8)), .inr (.inr (.inl 13)), .inl x0, .inl (h 93 (wI (6 + x0)).toNat), .inl x1, .inl x2, vU, vU]) rfl rfl zk1_8 zo_79).trans ?_
  refine congrArg (cI _) (funext fun a3_ => funext fun h2_ => ?_)
  refine (R_vcallI zf78_29 zo_78 zvl_11_282 (by rw [zr_87]; rfl) zl_87 (Nat.le_of_ble_eq_true rfl) rfl rfl (Nat.le_of_ble_eq_true rfl) (Nat.le_of_ble_eq_true rfl) (es := [.inr (.inr (.inl 2)), .inl a3_, vU, vU, vU]) rfl rfl zk1_2 zo_87).trans ?_
  refine congrArg (cI _) (funext fun a5_ => funext fun h4_ => ?_)
  refine (R_istore (ls' := [.inr (.inr (.inl 0)), .inr (.inr (.inl 13)), .inl x0, .inl x1, .inl x2, .inl x3, .inl (h 93 (wI (6 + x0)).toNat), .inl a5_]) zf78_32 (Nat.le_of_ble_eq_true rfl) rfl rfl).trans ?_
  refine (R_aload_n zf78_34 rfl zlt_13 rfl).trans ?_
  refine (R_getR zf78_35 zo_78 zfl_11_162 zk1_13 zft_9_0 zmr_13_0 rfl).trans ?_
  refine (R_iconst zf78_38 zw_0 rfl).trans ?_
  refine (R_dup2 zf78_39 rfl rfl rfl).trans ?_
  refine (R_ialdc zf78_40 zk_93 (by decide) rfl rfl).trans ?_
  refine (R_iload_n zf78_41 rfl rfl).trans ?_
  refine (R_isub zf78_42 rfl).trans ?_
  refine (R_iastc zf78_43 zk_93 (by decide) rfl rfl).trans ?_
  refine (R_iload zf78_44 rfl rfl).trans ?_
  refine (R_iconst zf78_46 zw_m1 rfl).trans ?_
  refine (R_icmp_ne (t := 63) zf78_47 rfl rfl).trans ?_
  refine ite_congr rfl (fun c6_ => ?_) (fun c6_ => ?_)
  · refine (R_aload_n zf78_63 rfl zlt_13 rfl).trans ?_
    refine (R_iload_n zf78_64 rfl rfl).trans ?_
    refine (R_iload zf78_65 rfl rfl).trans ?_
    refine (R_iload zf78_67 rfl rfl).trans ?_
    refine (R_vcallV zf78_69 zo_78 zvl_11_285 zr_88 zl_88 (Nat.le_of_ble_eq_true rfl) rfl rfl (Nat.le_of_ble_eq_true rfl) (Nat.le_of_ble_eq_true rfl) (es := [.inr (.inr (.inl 13)), .inl x0, .inl a5_, .inl x3]) rfl rfl zk1_13 zo_88).trans ?_
    refine congrArg (cV _) (funext fun h7_ => ?_)
    refine (R_aload_n zf78_72 rfl zlt_13 rfl).trans ?_
    refine (R_iload_n zf78_73 rfl rfl).trans ?_
    refine (R_iload zf78_74 rfl rfl).trans ?_
    refine (R_iload zf78_76 rfl rfl).trans ?_
    refine (R_iload_n zf78_78 rfl rfl).trans ?_
    refine (R_vcallV zf78_79 zo_78 zvl_11_289 zr_89 zl_89 (Nat.le_of_ble_eq_true rfl) rfl rfl (Nat.le_of_ble_eq_true rfl) (Nat.le_of_ble_eq_true rfl) (es := [.inr (.inr (.inl 13)), .inl x0, .inl (h 93 (wI (6 + x0)).toNat), .inl a5_, .inl x1, vU]) rfl rfl zk1_13 zo_89).trans ?_
    refine congrArg (cV _) (funext fun h8_ => ?_)
    refine (R_iload zf78_82 rfl rfl).trans ?_
    exact R_ireturn_i zf78_84 zr_78
  · refine (R_aload_n zf78_50 rfl zlt_13 rfl).trans ?_
    refine (R_getR zf78_51 zo_78 zfl_11_162 zk1_13 zft_9_0 zmr_13_0 rfl).trans ?_
    refine (R_bipush zf78_54 zb_16 rfl).trans ?_
    refine (R_iload_n zf78_56 rfl rfl).trans ?_
    refine (R_iadd zf78_57 rfl).trans ?_
    refine (R_iconst zf78_58 zw_2 rfl).trans ?_
    refine (R_iast zf78_59 zk_93 rfl).trans ?_
    refine ite_congr rfl (fun c9_ => ?_) (fun _ => rfl)
    refine (R_goto (t := 72) zf78_60 rfl).trans ?_
    refine (R_aload_n zf78_72 rfl zlt_13 rfl).trans ?_
    refine (R_iload_n zf78_73 rfl rfl).trans ?_
    refine (R_iload zf78_74 rfl rfl).trans ?_
    refine (R_iload zf78_76 rfl rfl).trans ?_
    refine (R_iload_n zf78_78 rfl rfl).trans ?_
    refine (R_vcallV zf78_79 zo_78 zvl_11_289 zr_89 zl_89 (Nat.le_of_ble_eq_true rfl) rfl rfl (Nat.le_of_ble_eq_true rfl) (Nat.le_of_ble_eq_true rfl) (es := [.inr (.inr (.inl 13)), .inl x0, .inl (h 93 (wI (6 + x0)).toNat), .inl a5_, .inl x1, vU]) rfl rfl zk1_13 zo_89).trans ?_
    refine congrArg (cV _) (funext fun h10_ => ?_)
    refine (R_iload zf78_82 rfl rfl).trans ?_
    exact R_ireturn_i zf78_84 zr_78
-- CannonPost$State.passHour(I)V at 0
theorem q100_0_1 (d : Nat) (x0 : Int) (h : MH) : Run d 100 0 [.inr (.inr (.inl 13)), .inl x0, vU] [] h = Run d 100 2 [.inr (.inr (.inl 13)), .inl x0, .inl 0] [] h := by
  refine (R_iconst zf100_0 zw_0 rfl).trans ?_
  refine (R_istore_n (ls' := [.inr (.inr (.inl 13)), .inl x0, .inl 0]) zf100_1 (Nat.le_of_ble_eq_true rfl) rfl rfl).trans ?_
  rfl
-- CannonPost$Lawbook.worth()I at 98
theorem q84_98 (d : Nat) (r0 : Nat) (hr0 : r0 < 4) (x1 : Int) (x2 : Int) (x3 : Int) (x4 : Int) (h : MH) : Run (d + 1) 84 98 [.inr (.inr (.inl 6)), .inr (.inr (.inl (25 + r0))), .inl x1, .inl x2, .inl x3, .inl x4] [] h = (if ¬ x3 = 0 then (if 0 ≤ x4 ∧ x4 < 6 then (if 0 ≤ x1 ∧ x1 < 64 then Run (d + 1) 84 34 [.inr (.inr (.inl 6)), .inr (.inr (.inl (25 + r0))), .inl (wI (x1 + 1)), .inl (wI (x2 + 1)), .inl x3, .inl x4] [] (up h 30 x1.toNat (h 23 x4.toNat)) else none) else none) else (if 0 ≤ x1 ∧ x1 < 64 then Run (d + 1) 84 34 [.inr (.inr (.inl 6)), .inr (.inr (.inl (25 + r0))), .inl (wI (x1 + 1)), .inl (wI (x2 + 1)), .inl x3, .inl x4] [] (up h 30 x1.toNat x4) else none)) := by
  refine (R_aload_n zf84_98 rfl zlt_6 rfl).trans ?_
  refine (R_getR zf84_99 zo_84 zfl_4_29 zk1_6 zft_4_5 zmr_6_5 rfl).trans ?_
  refine (R_iload_n zf84_102 rfl rfl).trans ?_
  refine (R_iload zf84_103 rfl rfl).trans ?_
  refine (R_if_ne (t := 113) zf84_105 rfl rfl).trans ?_
  refine ite_congr rfl (fun c1_ => ?_) (fun c1_ => ?_)
  · refine (R_aload_n zf84_113 rfl zlt_6 rfl).trans ?_
    refine (R_getR zf84_114 zo_84 zfl_4_9 zk1_6 zft_4_0 zmr_6_0 rfl).trans ?_
    refine (R_iload zf84_117 rfl rfl).trans ?_
    refine (R_iald zf84_119 zk_23 rfl).trans ?_
    refine ite_congr rfl (fun c2_ => ?_) (fun _ => rfl)
    refine (R_iast zf84_120 zk_30 rfl).trans ?_
    refine ite_congr rfl (fun c3_ => ?_) (fun _ => rfl)
    refine (R_iinc (ls' := [.inr (.inr (.inl 6)), .inr (.inr (.inl (25 + r0))), .inl (wI (x1 + 1)), .inl x2, .inl x3, .inl x4]) zf84_121 rfl rfl rfl).trans ?_
    refine (R_goto (t := 253) zf84_124 rfl).trans ?_
    refine (R_iinc (ls' := [.inr (.inr (.inl 6)), .inr (.inr (.inl (25 + r0))), .inl (wI (x1 + 1)), .inl (wI (x2 + 1)), .inl x3, .inl x4]) zf84_253 rfl rfl rfl).trans ?_
    refine (R_goto (t := 34) zf84_256 rfl).trans ?_
    rfl
  · refine (R_iload zf84_108 rfl rfl).trans ?_
    refine (R_goto (t := 120) zf84_110 rfl).trans ?_
    refine (R_iast zf84_120 zk_30 rfl).trans ?_
    refine ite_congr rfl (fun c4_ => ?_) (fun _ => rfl)
    refine (R_iinc (ls' := [.inr (.inr (.inl 6)), .inr (.inr (.inl (25 + r0))), .inl (wI (x1 + 1)), .inl x2, .inl x3, .inl x4]) zf84_121 rfl rfl rfl).trans ?_
    refine (R_goto (t := 253) zf84_124 rfl).trans ?_
    refine (R_iinc (ls' := [.inr (.inr (.inl 6)), .inr (.inr (.inl (25 + r0))), .inl (wI (x1 + 1)), .inl (wI (x2 + 1)), .inl x3, .inl x4]) zf84_253 rfl rfl rfl).trans ?_
    refine (R_goto (t := 34) zf84_256 rfl).trans ?_
    rfl
-- CannonPost$Lawbook.worth()I at 159
theorem q84_159 (d : Nat) (r0 : Nat) (hr0 : r0 < 4) (x1 : Int) (x2 : Int) (x3 : Int) (x4 : Int) (h : MH) : Run (d + 1) 84 159 [.inr (.inr (.inl 6)), .inr (.inr (.inl (25 + r0))), .inl x1, .inl x2, .inl x3, .inl x4] [] h = (if ¬ x3 = 12 then (if ¬ x3 = 13 then Run (d + 1) 84 218 [.inr (.inr (.inl 6)), .inr (.inr (.inl (25 + r0))), .inl x1, .inl x2, .inl x3, .inl x4] [] h else (if x1 ≤ 0 then Run (d + 1) 84 218 [.inr (.inr (.inl 6)), .inr (.inr (.inl (25 + r0))), .inl x1, .inl x2, .inl x3, .inl x4] [] h else (if 0 ≤ (wI (x1 - 1)) ∧ (wI (x1 - 1)) < 64 then some (some (.inl (h 30 (wI (x1 - 1)).toNat)), h) else none))) else (if x1 ≤ 0 then (if ¬ x3 = 13 then Run (d + 1) 84 218 [.inr (.inr (.inl 6)), .inr (.inr (.inl (25 + r0))), .inl x1, .inl x2, .inl x3, .inl x4] [] h else (if x1 ≤ 0 then Run (d + 1) 84 218 [.inr (.inr (.inl 6)), .inr (.inr (.inl (25 + r0))), .inl x1, .inl x2, .inl x3, .inl x4] [] h else (if 0 ≤ (wI (x1 - 1)) ∧ (wI (x1 - 1)) < 64 then some (some (.inl (h 30 (wI (x1 - 1)).toNat)), h) else none))) else (if 0 ≤ (wI (x1 + (-1))) ∧ (wI (x1 + (-1))) < 64 then (if ¬ (h 30 (wI (x1 + (-1))).toNat) = 0 then Run (d + 1) 84 34 [.inr (.inr (.inl 6)), .inr (.inr (.inl (25 + r0))), .inl (wI (x1 + (-1))), .inl (wI (x2 + 1)), .inl x3, .inl x4] [] h else Run (d + 1) 84 34 [.inr (.inr (.inl 6)), .inr (.inr (.inl (25 + r0))), .inl (wI (x1 + (-1))), .inl (wI ((mx x2 (wI (x4 - 1))) + 1)), .inl x3, .inl x4] [] h) else none))) := by
  refine (R_iload zf84_159 rfl rfl).trans ?_
  refine (R_bipush zf84_161 zb_12 rfl).trans ?_
  refine (R_icmp_ne (t := 198) zf84_163 rfl rfl).trans ?_
  refine ite_congr rfl (fun c1_ => ?_) (fun c1_ => ?_)
  · refine (R_iload zf84_198 rfl rfl).trans ?_
    refine (R_bipush zf84_200 zb_13 rfl).trans ?_
    refine (R_icmp_ne (t := 218) zf84_202 rfl rfl).trans ?_
    refine ite_congr rfl (fun c2_ => ?_) (fun c2_ => ?_)
    · rfl
    · refine (R_iload_n zf84_205 rfl rfl).trans ?_
      refine (R_if_le (t := 218) zf84_206 rfl rfl).trans ?_
      refine ite_congr rfl (fun c3_ => ?_) (fun c3_ => ?_)
      · rfl
      · refine (R_aload_n zf84_209 rfl zlt_6 rfl).trans ?_
        refine (R_getR zf84_210 zo_84 zfl_4_29 zk1_6 zft_4_5 zmr_6_5 rfl).trans ?_
        refine (R_iload_n zf84_213 rfl rfl).trans ?_
        refine (R_iconst zf84_214 zw_1 rfl).trans ?_
        refine (R_isub zf84_215 rfl).trans ?_
        refine (R_iald zf84_216 zk_30 rfl).trans ?_
        refine ite_congr rfl (fun c4_ => ?_) (fun _ => rfl)
        exact R_ireturn_i zf84_217 zr_84
  · refine (R_iload_n zf84_166 rfl rfl).trans ?_
    refine (R_if_le (t := 198) zf84_167 rfl rfl).trans ?_
    refine ite_congr rfl (fun c5_ => ?_) (fun c5_ => ?_)
    · refine (R_iload zf84_198 rfl rfl).trans ?_
      refine (R_bipush zf84_200 zb_13 rfl).trans ?_
      refine (R_icmp_ne (t := 218) zf84_202 rfl rfl).trans ?_
      refine ite_congr rfl (fun c6_ => ?_) (fun c6_ => ?_)
      · rfl
      · refine (R_iload_n zf84_205 rfl rfl).trans ?_
        refine (R_if_le (t := 218) zf84_206 rfl rfl).trans ?_
        refine ite_congr rfl (fun c7_ => ?_) (fun c7_ => ?_)
        · rfl
        · refine (R_aload_n zf84_209 rfl zlt_6 rfl).trans ?_
          refine (R_getR zf84_210 zo_84 zfl_4_29 zk1_6 zft_4_5 zmr_6_5 rfl).trans ?_
          refine (R_iload_n zf84_213 rfl rfl).trans ?_
          refine (R_iconst zf84_214 zw_1 rfl).trans ?_
          refine (R_isub zf84_215 rfl).trans ?_
          refine (R_iald zf84_216 zk_30 rfl).trans ?_
          refine ite_congr rfl (fun c8_ => ?_) (fun _ => rfl)
          exact R_ireturn_i zf84_217 zr_84
    · refine (R_iinc (ls' := [.inr (.inr (.inl 6)), .inr (.inr (.inl (25 + r0))), .inl (wI (x1 + (-1))), .inl x2, .inl x3, .inl x4]) zf84_170 rfl rfl rfl).trans ?_
      refine (R_aload_n zf84_173 rfl zlt_6 rfl).trans ?_
      refine (R_getR zf84_174 zo_84 zfl_4_29 zk1_6 zft_4_5 zmr_6_5 rfl).trans ?_
      refine (R_iload_n zf84_177 rfl rfl).trans ?_
      refine (R_iald zf84_178 zk_30 rfl).trans ?_
      refine ite_congr rfl (fun c9_ => ?_) (fun _ => rfl)
      refine (R_if_ne (t := 193) zf84_179 rfl rfl).trans ?_
      refine ite_congr rfl (fun c10_ => ?_) (fun c10_ => ?_)
      · refine (R_iload_n zf84_193 rfl rfl).trans ?_
        refine (R_istore_n (ls' := [.inr (.inr (.inl 6)), .inr (.inr (.inl (25 + r0))), .inl (wI (x1 + (-1))), .inl x2, .inl x3, .inl x4]) zf84_194 (Nat.le_of_ble_eq_true rfl) rfl rfl).trans ?_
        refine (R_goto (t := 253) zf84_195 rfl).trans ?_
        refine (R_iinc (ls' := [.inr (.inr (.inl 6)), .inr (.inr (.inl (25 + r0))), .inl (wI (x1 + (-1))), .inl (wI (x2 + 1)), .inl x3, .inl x4]) zf84_253 rfl rfl rfl).trans ?_
        refine (R_goto (t := 34) zf84_256 rfl).trans ?_
        rfl
      · refine (R_iload_n zf84_182 rfl rfl).trans ?_
        refine (R_iload zf84_183 rfl rfl).trans ?_
        refine (R_iconst zf84_185 zw_1 rfl).trans ?_
        refine (R_isub zf84_186 rfl).trans ?_
        refine (R_mmax zf84_187 zo_84 zsl_4_45 zml_4_45 zna_4_45 (Nat.le_of_ble_eq_true rfl) rfl).trans ?_
        refine (R_goto (t := 194) zf84_190 rfl).trans ?_
        refine (R_istore_n (ls' := [.inr (.inr (.inl 6)), .inr (.inr (.inl (25 + r0))), .inl (wI (x1 + (-1))), .inl (mx x2 (wI (x4 - 1))), .inl x3, .inl x4]) zf84_194 (Nat.le_of_ble_eq_true rfl) rfl rfl).trans ?_
        refine (R_goto (t := 253) zf84_195 rfl).trans ?_
        refine (R_iinc (ls' := [.inr (.inr (.inl 6)), .inr (.inr (.inl (25 + r0))), .inl (wI (x1 + (-1))), .inl (wI ((mx x2 (wI (x4 - 1))) + 1)), .inl x3, .inl x4]) zf84_253 rfl rfl rfl).trans ?_
        refine (R_goto (t := 34) zf84_256 rfl).trans ?_
        rfl
-- CannonPost$Flight.reckon(LCannonPost$State;II)V at 69
theorem q126_69 (d : Nat) (x0 : Int) (x1 : Int) (x2 : Int) (x3 : Int) (x4 : Int) (x5 : Int) (z6 : MV) (hz6 : cat z6 = 1) (z7 : MV) (hz7 : cat z7 = 1) (h : MH) : Run (d + 1) 126 69 [.inr (.inr (.inl 8)), .inr (.inr (.inl 12)), .inl x0, .inl x1, .inl x2, .inl x3, .inl x4, .inl x5, z6, z7] [] h = (if 20 < x5 then Run (d + 1) 126 41 [.inr (.inr (.inl 8)), .inr (.inr (.inl 12)), .inl x0, .inl x1, .inl x2, .inl (wI (x3 + 1)), .inl x4, .inl x5, z6, z7] [] h else (cI (Run d 81 0 [.inr (.inr (.inl 8)), .inl x0, .inl x1, .inl x5, .inl x4, .inl (h 91 3), vU, vU, vU] [] h) fun a3_ h2_ => (cI (Run d 18 0 [.inr (.inr (.inl 2)), .inl x1] [] h2_) fun a5_ h4_ => (cI (Run d 86 0 [.inl a5_, .inl a3_, .inl x3] [] h4_) fun a7_ h6_ => (cI (Run d 87 0 [.inr (.inr (.inl 2)), .inl a7_, vU, vU, vU] [] h6_) fun a9_ h8_ => (if a9_ = (-1) then Run (d + 1) 126 69 [.inr (.inr (.inl 8)), .inr (.inr (.inl 12)), .inl x0, .inl x1, .inl x2, .inl x3, .inl x4, .inl (wI (x5 + 1)), .inl a3_, .inl a9_] [] h8_ else (if a9_ = x1 then Run (d + 1) 126 69 [.inr (.inr (.inl 8)), .inr (.inr (.inl 12)), .inl x0, .inl x1, .inl x2, .inl x3, .inl x4, .inl (wI (x5 + 1)), .inl a3_, .inl a9_] [] h8_ else (if 0 ≤ (wI (x2 + a9_)) ∧ (wI (x2 + a9_)) < 320 then (if ¬ (h8_ 38 (wI (x2 + a9_)).toNat) = (-1) then Run (d + 1) 126 69 [.inr (.inr (.inl 8)), .inr (.inr (.inl 12)), .inl x0, .inl x1, .inl x2, .inl x3, .inl x4, .inl (wI (x5 + 1)), .inl a3_, .inl a9_] [] h8_ else (if 0 ≤ (wI (x2 + a9_)) ∧ (wI (x2 + a9_)) < 320 then Run (d + 1) 126 69 [.inr (.inr (.inl 8)), .inr (.inr (.inl 12)), .inl x0, .inl x1, .inl x2, .inl x3, .inl x4, .inl (wI (x5 + 1)), .inl a3_, .inl a9_] [] (up h8_ 38 (wI (x2 + a9_)).toNat x5) else none)) else none)))))))) := by
  refine (R_iload zf126_69 rfl rfl).trans ?_
  refine (R_bipush zf126_71 zb_20 rfl).trans ?_
  refine (R_icmp_gt (t := 162) zf126_73 rfl rfl).trans ?_
  refine ite_congr rfl (fun c1_ => ?_) (fun c1_ => ?_)
  · refine (R_iinc (ls' := [.inr (.inr (.inl 8)), .inr (.inr (.inl 12)), .inl x0, .inl x1, .inl x2, .inl (wI (x3 + 1)), .inl x4, .inl x5, z6, z7]) zf126_162 rfl rfl rfl).trans ?_
    refine (R_goto (t := 41) zf126_165 rfl).trans ?_
    rfl
  · refine (R_aload_n zf126_76 rfl zlt_8 rfl).trans ?_
    refine (R_iload_n zf126_77 rfl rfl).trans ?_
    refine (R_iload_n zf126_78 rfl rfl).trans ?_
    refine (R_iload zf126_79 rfl rfl).trans ?_
    refine (R_iload zf126_81 rfl rfl).trans ?_
    refine (R_aload_n zf126_83 rfl zlt_12 rfl).trans ?_
    refine (R_getR zf126_84 zo_126 zfl_0_66 zk1_12 zft_9_0 zmr_12_0 rfl).trans ?_
    refine (R_iconst zf126_87 zw_3 rfl).trans ?_
    refine (R_ialdc zf126_88 zk_91 (by decide) rfl rfl).trans ?_
    refine (R_vcallI zf126_89 zo_126 zvl_0_75 (by rw [zr_81]; rfl) zl_81 (Nat.le_of_ble_eq_true rfl) rfl rfl (Nat.le_of_ble_eq_true rfl) (Nat.le_of_ble_eq_true rfl) (es := [.inr (.inr (.inl 8)), .inl x0, .inl x1, .inl x5, .inl x4, .inl (h 91 3), vU, vU, vU]) rfl rfl zk1_8 zo_81).trans ?_
    refine congrArg (cI _) (funext fun a3_ => funext fun h2_ => ?_)
    refine (R_istore (ls' := [.inr (.inr (.inl 8)), .inr (.inr (.inl 12)), .inl x0, .inl x1, .inl x2, .inl x3, .inl x4, .inl x5, .inl a3_, z7]) zf126_92 (Nat.le_of_ble_eq_true rfl) rfl rfl).trans ?_
    refine (R_aload_n zf126_94 rfl zlt_8 rfl).trans ?_
    refine (R_getR zf126_95 zo_126 zfl_0_20 zk1_8 zft_0_0 zmr_8_0 rfl).trans ?_
    refine (R_aload_n zf126_98 rfl zlt_8 rfl).trans ?_
    refine (R_getR zf126_99 zo_126 zfl_0_20 zk1_8 zft_0_0 zmr_8_0 rfl).trans ?_
    refine (R_iload_n zf126_102 rfl rfl).trans ?_
    refine (R_vcallI zf126_103 zo_126 zvl_0_79 (by rw [zr_18]; rfl) zl_18 (Nat.le_of_ble_eq_true rfl) rfl rfl (Nat.le_of_ble_eq_true rfl) (Nat.le_of_ble_eq_true rfl) (es := [.inr (.inr (.inl 2)), .inl x1]) rfl rfl zk1_2 zo_18).trans ?_
    refine congrArg (cI _) (funext fun a5_ => funext fun h4_ => ?_)
    refine (R_iload zf126_106 rfl rfl).trans ?_
    refine (R_iload zf126_108 rfl rfl).trans ?_
    refine (R_callI zf126_110 zo_126 zsl_0_82 (by rw [zr_86]; rfl) zl_86 (Nat.le_of_ble_eq_true rfl) rfl rfl (Nat.le_of_ble_eq_true rfl) (Nat.le_of_ble_eq_true rfl) (es := [.inl a5_, .inl a3_, .inl x3]) rfl rfl).trans ?_
    refine congrArg (cI _) (funext fun a7_ => funext fun h6_ => ?_)
    refine (R_vcallI zf126_113 zo_126 zvl_0_89 (by rw [zr_87]; rfl) zl_87 (Nat.le_of_ble_eq_true rfl) rfl rfl (Nat.le_of_ble_eq_true rfl) (Nat.le_of_ble_eq_true rfl) (es := [.inr (.inr (.inl 2)), .inl a7_, vU, vU, vU]) rfl rfl zk1_2 zo_87).trans ?_
    refine congrArg (cI _) (funext fun a9_ => funext fun h8_ => ?_)
    refine (R_istore (ls' := [.inr (.inr (.inl 8)), .inr (.inr (.inl 12)), .inl x0, .inl x1, .inl x2, .inl x3, .inl x4, .inl x5, .inl a3_, .inl a9_]) zf126_116 (Nat.le_of_ble_eq_true rfl) rfl rfl).trans ?_
    refine (R_iload zf126_118 rfl rfl).trans ?_
    refine (R_iconst zf126_120 zw_m1 rfl).trans ?_
    refine (R_icmp_eq (t := 156) zf126_121 rfl rfl).trans ?_
    refine ite_congr rfl (fun c10_ => ?_) (fun c10_ => ?_)
    · refine (R_iinc (ls' := [.inr (.inr (.inl 8)), .inr (.inr (.inl 12)), .inl x0, .inl x1, .inl x2, .inl x3, .inl x4, .inl (wI (x5 + 1)), .inl a3_, .inl a9_]) zf126_156 rfl rfl rfl).trans ?_
      refine (R_goto (t := 69) zf126_159 rfl).trans ?_
      rfl
    · refine (R_iload zf126_124 rfl rfl).trans ?_
      refine (R_iload_n zf126_126 rfl rfl).trans ?_
      refine (R_icmp_eq (t := 156) zf126_127 rfl rfl).trans ?_
      refine ite_congr rfl (fun c11_ => ?_) (fun c11_ => ?_)
      · refine (R_iinc (ls' := [.inr (.inr (.inl 8)), .inr (.inr (.inl 12)), .inl x0, .inl x1, .inl x2, .inl x3, .inl x4, .inl (wI (x5 + 1)), .inl a3_, .inl a9_]) zf126_156 rfl rfl rfl).trans ?_
        refine (R_goto (t := 69) zf126_159 rfl).trans ?_
        rfl
      · refine (R_aload_n zf126_130 rfl zlt_8 rfl).trans ?_
        refine (R_getR zf126_131 zo_126 zfl_0_13 zk1_8 zft_0_2 zmr_8_2 rfl).trans ?_
        refine (R_iload zf126_134 rfl rfl).trans ?_
        refine (R_iload zf126_136 rfl rfl).trans ?_
        refine (R_iadd zf126_138 rfl).trans ?_
        refine (R_iald zf126_139 zk_38 rfl).trans ?_
        refine ite_congr rfl (fun c12_ => ?_) (fun _ => rfl)
        refine (R_iconst zf126_140 zw_m1 rfl).trans ?_
        refine (R_icmp_ne (t := 156) zf126_141 rfl rfl).trans ?_
        refine ite_congr rfl (fun c13_ => ?_) (fun c13_ => ?_)
        · refine (R_iinc (ls' := [.inr (.inr (.inl 8)), .inr (.inr (.inl 12)), .inl x0, .inl x1, .inl x2, .inl x3, .inl x4, .inl (wI (x5 + 1)), .inl a3_, .inl a9_]) zf126_156 rfl rfl rfl).trans ?_
          refine (R_goto (t := 69) zf126_159 rfl).trans ?_
          rfl
        · refine (R_aload_n zf126_144 rfl zlt_8 rfl).trans ?_
          refine (R_getR zf126_145 zo_126 zfl_0_13 zk1_8 zft_0_2 zmr_8_2 rfl).trans ?_
          refine (R_iload zf126_148 rfl rfl).trans ?_
          refine (R_iload zf126_150 rfl rfl).trans ?_
          refine (R_iadd zf126_152 rfl).trans ?_
          refine (R_iload zf126_153 rfl rfl).trans ?_
          refine (R_iast zf126_155 zk_38 rfl).trans ?_
          refine ite_congr rfl (fun c14_ => ?_) (fun _ => rfl)
          refine (R_iinc (ls' := [.inr (.inr (.inl 8)), .inr (.inr (.inl 12)), .inl x0, .inl x1, .inl x2, .inl x3, .inl x4, .inl (wI (x5 + 1)), .inl a3_, .inl a9_]) zf126_156 rfl rfl rfl).trans ?_
          refine (R_goto (t := 69) zf126_159 rfl).trans ?_
          rfl
-- CannonPost$Paths.trace(LCannonPost$State;II)V at 97
theorem q128_97 (d : Nat) (x0 : Int) (z1 : MV) (hz1 : cat z1 = 1) (x2 : Int) (x3 : Int) (x4 : Int) (z5 : MV) (hz5 : cat z5 = 1) (h : MH) : Run (d + 1) 128 97 [.inr (.inr (.inl 9)), .inr (.inr (.inl 12)), .inl x0, z1, .inl x2, .inl x3, .inl x4, z5] [] h = (if 0 ≤ x4 ∧ x4 < 8 then (if ¬ (h 40 x4.toNat) = (wI (x2 - 1)) then Run (d + 1) 128 128 [.inr (.inr (.inl 9)), .inr (.inr (.inl 12)), .inl x0, z1, .inl x2, .inl x3, .inl x4, z5] [.inl (-1)] h else (cI (Run d 125 0 [.inr (.inr (.inl 8)), .inr (.inr (.inl 12)), .inl x0, .inl x4, .inl x3, vU, vU] [] h) fun a4_ h3_ => Run (d + 1) 128 128 [.inr (.inr (.inl 9)), .inr (.inr (.inl 12)), .inl x0, z1, .inl x2, .inl x3, .inl x4, z5] [.inl a4_] h3_)) else none) := by
  refine (R_aload_n zf128_97 rfl zlt_9 rfl).trans ?_
  refine (R_getR zf128_98 zo_128 zfl_7_11 zk1_9 zft_7_0 zmr_9_0 rfl).trans ?_
  refine (R_iload zf128_101 rfl rfl).trans ?_
  refine (R_iald zf128_103 zk_40 rfl).trans ?_
  refine ite_congr rfl (fun c1_ => ?_) (fun _ => rfl)
  refine (R_iload zf128_104 rfl rfl).trans ?_
  refine (R_iconst zf128_106 zw_1 rfl).trans ?_
  refine (R_isub zf128_107 rfl).trans ?_
  refine (R_icmp_ne (t := 127) zf128_108 rfl rfl).trans ?_
  refine ite_congr rfl (fun c2_ => ?_) (fun c2_ => ?_)
  · refine (R_iconst zf128_127 zw_m1 rfl).trans ?_
    rfl
  · refine (R_aload_n zf128_111 rfl zlt_9 rfl).trans ?_
    refine (R_getR zf128_112 zo_128 zfl_7_33 zk1_9 zft_7_6 zmr_9_6 rfl).trans ?_
    refine (R_aload_n zf128_115 rfl zlt_12 rfl).trans ?_
    refine (R_iload_n zf128_116 rfl rfl).trans ?_
    refine (R_iload zf128_117 rfl rfl).trans ?_
    refine (R_iload zf128_119 rfl rfl).trans ?_
    refine (R_vcallI zf128_121 zo_128 zvl_7_47 (by rw [zr_125]; rfl) zl_125 (Nat.le_of_ble_eq_true rfl) rfl rfl (Nat.le_of_ble_eq_true rfl) (Nat.le_of_ble_eq_true rfl) (es := [.inr (.inr (.inl 8)), .inr (.inr (.inl 12)), .inl x0, .inl x4, .inl x3, vU, vU]) rfl rfl zk1_8 zo_125).trans ?_
    refine congrArg (cI _) (funext fun a4_ => funext fun h3_ => ?_)
    refine (R_goto (t := 128) zf128_124 rfl).trans ?_
    rfl
-- CannonPost$Paths.firstShot(LCannonPost$State;III)I at 53
theorem q133_53 (d : Nat) (x0 : Int) (x1 : Int) (x2 : Int) (x3 : Int) (x4 : Int) (x5 : Int) (x6 : Int) (h : MH) : Run (d + 1) 133 53 [.inr (.inr (.inl 9)), .inr (.inr (.inl 12)), .inl x0, .inl x1, .inl x2, .inl x3, .inl x4, .inl x5, .inl x6] [] h = (if x4 ≤ x6 then Run (d + 1) 133 37 [.inr (.inr (.inl 9)), .inr (.inr (.inl 12)), .inl x0, .inl x1, .inl x2, .inl x3, .inl x4, .inl (wI (x5 + 1)), .inl x6] [] h else (if 0 ≤ (wI (16 + x5)) ∧ (wI (16 + x5)) < 37 then (if ¬ (h 91 (wI (16 + x5)).toNat) = 0 then Run (d + 1) 133 53 [.inr (.inr (.inl 9)), .inr (.inr (.inl 12)), .inl x0, .inl x1, .inl x2, .inl x3, .inl x4, .inl x5, .inl (wI (x6 + 1))] [] h else (if 0 ≤ x5 ∧ x5 < 5 then (cI (Run d 125 0 [.inr (.inr (.inl 8)), .inr (.inr (.inl 12)), .inl x5, .inl (h 44 x5.toNat), .inl x6, vU, vU] [] h) fun a6_ h5_ => (if a6_ = (-1) then Run (d + 1) 133 53 [.inr (.inr (.inl 9)), .inr (.inr (.inl 12)), .inl x0, .inl x1, .inl x2, .inl x3, .inl x4, .inl x5, .inl (wI (x6 + 1))] [] h5_ else (cI (Run d 134 0 [.inr (.inr (.inl 9)), .inr (.inr (.inl 12)), .inl (wI ((wI (10 * x5)) + x6)), .inl x0, .inl x1, .inl x2, vU, vU, vU, vU, vU] [] h5_) fun a9_ h8_ => (if a9_ = 0 then Run (d + 1) 133 53 [.inr (.inr (.inl 9)), .inr (.inr (.inl 12)), .inl x0, .inl x1, .inl x2, .inl x3, .inl x4, .inl x5, .inl (wI (x6 + 1))] [] h8_ else some (some (.inl (wI ((wI (10 * x5)) + x6))), h8_))))) else none)) else none)) := by
  refine (R_iload zf133_53 rfl rfl).trans ?_
  refine (R_iload zf133_55 rfl rfl).trans ?_
  refine (R_icmp_ge (t := 131) zf133_57 rfl rfl).trans ?_
  refine ite_congr rfl (fun c1_ => ?_) (fun c1_ => ?_)
  · refine (R_iinc (ls' := [.inr (.inr (.inl 9)), .inr (.inr (.inl 12)), .inl x0, .inl x1, .inl x2, .inl x3, .inl x4, .inl (wI (x5 + 1)), .inl x6]) zf133_131 rfl rfl rfl).trans ?_
    refine (R_goto (t := 37) zf133_134 rfl).trans ?_
    rfl
  · refine (R_aload_n zf133_60 rfl zlt_12 rfl).trans ?_
    refine (R_getR zf133_61 zo_133 zfl_7_57 zk1_12 zft_9_0 zmr_12_0 rfl).trans ?_
    refine (R_bipush zf133_64 zb_16 rfl).trans ?_
    refine (R_iload zf133_66 rfl rfl).trans ?_
    refine (R_iadd zf133_68 rfl).trans ?_
    refine (R_iald zf133_69 zk_91 rfl).trans ?_
    refine ite_congr rfl (fun c2_ => ?_) (fun _ => rfl)
    refine (R_if_ne (t := 125) zf133_70 rfl rfl).trans ?_
    refine ite_congr rfl (fun c3_ => ?_) (fun c3_ => ?_)
    · refine (R_iinc (ls' := [.inr (.inr (.inl 9)), .inr (.inr (.inl 12)), .inl x0, .inl x1, .inl x2, .inl x3, .inl x4, .inl x5, .inl (wI (x6 + 1))]) zf133_125 rfl rfl rfl).trans ?_
      refine (R_goto (t := 53) zf133_128 rfl).trans ?_
      rfl
    · refine (R_aload_n zf133_73 rfl zlt_9 rfl).trans ?_
      refine (R_getR zf133_74 zo_133 zfl_7_33 zk1_9 zft_7_6 zmr_9_6 rfl).trans ?_
      refine (R_aload_n zf133_77 rfl zlt_12 rfl).trans ?_
      refine (R_iload zf133_78 rfl rfl).trans ?_
      refine (R_aload_n zf133_80 rfl zlt_9 rfl).trans ?_
      refine (R_getR zf133_81 zo_133 zfl_7_26 zk1_9 zft_7_4 zmr_9_4 rfl).trans ?_
      refine (R_iload zf133_84 rfl rfl).trans ?_
      refine (R_iald zf133_86 zk_44 rfl).trans ?_
      refine ite_congr rfl (fun c4_ => ?_) (fun _ => rfl)
      refine (R_iload zf133_87 rfl rfl).trans ?_
      refine (R_vcallI zf133_89 zo_133 zvl_7_47 (by rw [zr_125]; rfl) zl_125 (Nat.le_of_ble_eq_true rfl) rfl rfl (Nat.le_of_ble_eq_true rfl) (Nat.le_of_ble_eq_true rfl) (es := [.inr (.inr (.inl 8)), .inr (.inr (.inl 12)), .inl x5, .inl (h 44 x5.toNat), .inl x6, vU, vU]) rfl rfl zk1_8 zo_125).trans ?_
      refine congrArg (cI _) (funext fun a6_ => funext fun h5_ => ?_)
      refine (R_iconst zf133_92 zw_m1 rfl).trans ?_
      refine (R_icmp_eq (t := 125) zf133_93 rfl rfl).trans ?_
      refine ite_congr rfl (fun c7_ => ?_) (fun c7_ => ?_)
      · refine (R_iinc (ls' := [.inr (.inr (.inl 9)), .inr (.inr (.inl 12)), .inl x0, .inl x1, .inl x2, .inl x3, .inl x4, .inl x5, .inl (wI (x6 + 1))]) zf133_125 rfl rfl rfl).trans ?_
        refine (R_goto (t := 53) zf133_128 rfl).trans ?_
        rfl
      · refine (R_aload_n zf133_96 rfl zlt_9 rfl).trans ?_
        refine (R_aload_n zf133_97 rfl zlt_12 rfl).trans ?_
        refine (R_bipush zf133_98 zb_10 rfl).trans ?_
        refine (R_iload zf133_100 rfl rfl).trans ?_
        refine (R_imul zf133_102 rfl).trans ?_
        refine (R_iload zf133_103 rfl rfl).trans ?_
        refine (R_iadd zf133_105 rfl).trans ?_
        refine (R_iload_n zf133_106 rfl rfl).trans ?_
        refine (R_iload_n zf133_107 rfl rfl).trans ?_
        refine (R_iload zf133_108 rfl rfl).trans ?_
        refine (R_vcallI zf133_110 zo_133 zvl_7_74 (by rw [zr_134]; rfl) zl_134 (Nat.le_of_ble_eq_true rfl) rfl rfl (Nat.le_of_ble_eq_true rfl) (Nat.le_of_ble_eq_true rfl) (es := [.inr (.inr (.inl 9)), .inr (.inr (.inl 12)), .inl (wI ((wI (10 * x5)) + x6)), .inl x0, .inl x1, .inl x2, vU, vU, vU, vU, vU]) rfl rfl zk1_9 zo_134).trans ?_
        refine congrArg (cI _) (funext fun a9_ => funext fun h8_ => ?_)
        refine (R_if_eq (t := 125) zf133_113 rfl rfl).trans ?_
        refine ite_congr rfl (fun c10_ => ?_) (fun c10_ => ?_)
        · refine (R_iinc (ls' := [.inr (.inr (.inl 9)), .inr (.inr (.inl 12)), .inl x0, .inl x1, .inl x2, .inl x3, .inl x4, .inl x5, .inl (wI (x6 + 1))]) zf133_125 rfl rfl rfl).trans ?_
          refine (R_goto (t := 53) zf133_128 rfl).trans ?_
          rfl
        · refine (R_bipush zf133_116 zb_10 rfl).trans ?_
          refine (R_iload zf133_118 rfl rfl).trans ?_
          refine (R_imul zf133_120 rfl).trans ?_
          refine (R_iload zf133_121 rfl rfl).trans ?_
          refine (R_iadd zf133_123 rfl).trans ?_
          exact R_ireturn_i zf133_124 zr_133
-- CannonPost$Guesses.reachBy(IIIII)I at 0
theorem q152_0 (d : Nat) (x0 : Int) (x1 : Int) (x2 : Int) (x3 : Int) (x4 : Int) (h : MH) : Run (d + 1) 152 0 [.inr (.inr (.inl 10)), .inl x0, .inl x1, .inl x2, .inl x3, .inl x4] [] h = (cI (Run d 80 0 [.inl (x0.tmod 10), .inl (wI (x0.tdiv 10)), .inl x4] [] h) fun a2_ h1_ => (cI (Run d 81 0 [.inr (.inr (.inl 8)), .inl x1, .inl x2, .inl x3, .inl a2_, .inl 0, vU, vU, vU] [] h1_) fun a4_ h3_ => some (some (.inl a4_), h3_))) := by
  refine (R_aload_n zf152_0 rfl zlt_10 rfl).trans ?_
  refine (R_getR zf152_1 zo_152 zfl_1_34 zk1_10 zft_1_9 zmr_10_9 rfl).trans ?_
  refine (R_iload_n zf152_4 rfl rfl).trans ?_
  refine (R_iload_n zf152_5 rfl rfl).trans ?_
  refine (R_iload zf152_6 rfl rfl).trans ?_
  refine (R_iload_n zf152_8 rfl rfl).trans ?_
  refine (R_bipush zf152_9 zb_10 rfl).trans ?_
  refine (R_irem zf152_11 (by decide) rfl).trans ?_
  refine (R_iload_n zf152_12 rfl rfl).trans ?_
  refine (R_bipush zf152_13 zb_10 rfl).trans ?_
  refine (R_idiv zf152_15 (by decide) rfl).trans ?_
  refine (R_iload zf152_16 rfl rfl).trans ?_
  refine (R_callI zf152_18 zo_152 zsl_1_66 (by rw [zr_80]; rfl) zl_80 (Nat.le_of_ble_eq_true rfl) rfl rfl (Nat.le_of_ble_eq_true rfl) (Nat.le_of_ble_eq_true rfl) (es := [.inl (x0.tmod 10), .inl (wI (x0.tdiv 10)), .inl x4]) rfl rfl).trans ?_
  refine congrArg (cI _) (funext fun a2_ => funext fun h1_ => ?_)
  refine (R_iconst zf152_21 zw_0 rfl).trans ?_
  refine (R_vcallI zf152_22 zo_152 zvl_1_69 (by rw [zr_81]; rfl) zl_81 (Nat.le_of_ble_eq_true rfl) rfl rfl (Nat.le_of_ble_eq_true rfl) (Nat.le_of_ble_eq_true rfl) (es := [.inr (.inr (.inl 8)), .inl x1, .inl x2, .inl x3, .inl a2_, .inl 0, vU, vU, vU]) rfl rfl zk1_8 zo_81).trans ?_
  refine congrArg (cI _) (funext fun a4_ => funext fun h3_ => ?_)
  exact R_ireturn_i zf152_25 zr_152
-- java/util/Arrays.fill([II)V at 0
theorem q48_0_3 (d : Nat) (x0 : Int) (h : MH) : Run d 48 0 [.inr (.inr (.inl 47)), .inl x0, vU, vU] [] h = Run d 48 5 [.inr (.inr (.inl 47)), .inl x0, .inl 0, .inl 61] [] h := by
  refine (R_iconst zf48_0 zw_0 rfl).trans ?_
  refine (R_istore_n (ls' := [.inr (.inr (.inl 47)), .inl x0, .inl 0, vU]) zf48_1 (Nat.le_of_ble_eq_true rfl) rfl rfl).trans ?_
  refine (R_aload_n zf48_2 rfl zlt_47 rfl).trans ?_
  refine (R_len100 (v := 61) zf48_3 zk_47 rfl rfl).trans ?_
  refine (R_istore_n (ls' := [.inr (.inr (.inl 47)), .inl x0, .inl 0, .inl 61]) zf48_4 (Nat.le_of_ble_eq_true rfl) rfl rfl).trans ?_
  rfl
-- CannonPost$Guesses.mostTogether(IIII)I at 14
theorem q155_14 (d : Nat) (x0 : Int) (x1 : Int) (x2 : Int) (x3 : Int) (x4 : Int) (x5 : Int) (z6 : MV) (hz6 : cat z6 = 1) (h : MH) : Run (d + 1) 155 14 [.inr (.inr (.inl 10)), .inl x0, .inl x1, .inl x2, .inl x3, .inl x4, .inl x5, z6] [] h = (if (h 10 1) ≤ x5 then some (some (.inl x4), h) else (if 0 ≤ x5 ∧ x5 < 20 then (cI (Run d 152 0 [.inr (.inr (.inl 10)), .inl (h 45 x5.toNat), .inl x0, .inl x1, .inl x2, .inl x3] [] h) fun a4_ h3_ => (if 0 ≤ a4_ ∧ a4_ < 61 then (if 0 ≤ a4_ ∧ a4_ < 61 then (if 0 ≤ a4_ ∧ a4_ < 61 then Run (d + 1) 155 14 [.inr (.inr (.inl 10)), .inl x0, .inl x1, .inl x2, .inl x3, .inl (mx x4 ((up h3_ 47 a4_.toNat (wI ((h3_ 47 a4_.toNat) + 1))) 47 a4_.toNat)), .inl (wI (x5 + 1)), .inl a4_] [] (up h3_ 47 a4_.toNat (wI ((h3_ 47 a4_.toNat) + 1))) else none) else none) else none)) else none)) := by
  refine (R_iload zf155_14 rfl rfl).trans ?_
  refine (R_aload_n zf155_16 rfl zlt_10 rfl).trans ?_
  refine (R_getI zf155_17 zo_155 zfl_1_45 zk1_10 zft_1_1 rfl).trans ?_
  refine (R_icmp_ge (t := 72) zf155_20 rfl rfl).trans ?_
  refine ite_congr rfl (fun c1_ => ?_) (fun c1_ => ?_)
  · refine (R_iload zf155_72 rfl rfl).trans ?_
    exact R_ireturn_i zf155_74 zr_155
  · refine (R_aload_n zf155_23 rfl zlt_10 rfl).trans ?_
    refine (R_aload_n zf155_24 rfl zlt_10 rfl).trans ?_
    refine (R_getR zf155_25 zo_155 zfl_1_11 zk1_10 zft_1_0 zmr_10_0 rfl).trans ?_
    refine (R_iload zf155_28 rfl rfl).trans ?_
    refine (R_iald zf155_30 zk_45 rfl).trans ?_
    refine ite_congr rfl (fun c2_ => ?_) (fun _ => rfl)
    refine (R_iload_n zf155_31 rfl rfl).trans ?_
    refine (R_iload_n zf155_32 rfl rfl).trans ?_
    refine (R_iload_n zf155_33 rfl rfl).trans ?_
    refine (R_iload zf155_34 rfl rfl).trans ?_
    refine (R_vcallI zf155_36 zo_155 zvl_1_52 (by rw [zr_152]; rfl) zl_152 (Nat.le_of_ble_eq_true rfl) rfl rfl (Nat.le_of_ble_eq_true rfl) (Nat.le_of_ble_eq_true rfl) (es := [.inr (.inr (.inl 10)), .inl (h 45 x5.toNat), .inl x0, .inl x1, .inl x2, .inl x3]) rfl rfl zk1_10 zo_152).trans ?_
    refine congrArg (cI _) (funext fun a4_ => funext fun h3_ => ?_)
    refine (R_istore (ls' := [.inr (.inr (.inl 10)), .inl x0, .inl x1, .inl x2, .inl x3, .inl x4, .inl x5, .inl a4_]) zf155_39 (Nat.le_of_ble_eq_true rfl) rfl rfl).trans ?_
    refine (R_aload_n zf155_41 rfl zlt_10 rfl).trans ?_
    refine (R_getR zf155_42 zo_155 zfl_1_20 zk1_10 zft_1_5 zmr_10_5 rfl).trans ?_
    refine (R_iload zf155_45 rfl rfl).trans ?_
    refine (R_dup2 zf155_47 rfl rfl rfl).trans ?_
    refine (R_iald zf155_48 zk_47 rfl).trans ?_
    refine ite_congr rfl (fun c5_ => ?_) (fun _ => rfl)
    refine (R_iconst zf155_49 zw_1 rfl).trans ?_
    refine (R_iadd zf155_50 rfl).trans ?_
    refine (R_iast zf155_51 zk_47 rfl).trans ?_
    refine ite_congr rfl (fun c6_ => ?_) (fun _ => rfl)
    refine (R_iload zf155_52 rfl rfl).trans ?_
    refine (R_aload_n zf155_54 rfl zlt_10 rfl).trans ?_
    refine (R_getR zf155_55 zo_155 zfl_1_20 zk1_10 zft_1_5 zmr_10_5 rfl).trans ?_
    refine (R_iload zf155_58 rfl rfl).trans ?_
    refine (R_iald zf155_60 zk_47 rfl).trans ?_
    refine ite_congr rfl (fun c7_ => ?_) (fun _ => rfl)
    refine (R_mmax zf155_61 zo_155 zsl_1_82 zml_1_82 zna_1_82 (Nat.le_of_ble_eq_true rfl) rfl).trans ?_
    refine (R_istore (ls' := [.inr (.inr (.inl 10)), .inl x0, .inl x1, .inl x2, .inl x3, .inl (mx x4 ((up h3_ 47 a4_.toNat (wI ((h3_ 47 a4_.toNat) + 1))) 47 a4_.toNat)), .inl x5, .inl a4_]) zf155_64 (Nat.le_of_ble_eq_true rfl) rfl rfl).trans ?_
    refine (R_iinc (ls' := [.inr (.inr (.inl 10)), .inl x0, .inl x1, .inl x2, .inl x3, .inl (mx x4 ((up h3_ 47 a4_.toNat (wI ((h3_ 47 a4_.toNat) + 1))) 47 a4_.toNat)), .inl (wI (x5 + 1)), .inl a4_]) zf155_66 rfl rfl rfl).trans ?_
    refine (R_goto (t := 14) zf155_69 rfl).trans ?_
    rfl
-- CannonPost$Guesses.product(I)J at 30
theorem q161_30 (d : Nat) (x0 : Int) (x1 : Int) (z2 : MV) (hz2 : cat z2 = 1) (x3 : Int) (z4 : MV) (hz4 : cat z4 = 1) (y5 : Int) (h : MH) : Run d 161 30 [.inr (.inr (.inl 10)), .inl x0, .inr (.inl x1), z2, .inl x3, z4] [.inl y5] h = (if 0 ≤ x3 ∧ x3 < 12 then (if (h 49 x3.toNat) = 0 then (if y5 = 0 then Run d 161 5 [.inr (.inr (.inl 10)), .inl x0, .inr (.inl (wL (x1 * 7))), vU, .inl (wI (x3 + 1)), .inl y5] [] h else Run d 161 5 [.inr (.inr (.inl 10)), .inl x0, .inr (.inl (wL (x1 * 2))), vU, .inl (wI (x3 + 1)), .inl y5] [] h) else (if y5 = 0 then Run d 161 5 [.inr (.inr (.inl 10)), .inl x0, .inr (.inl (wL (x1 * 3))), vU, .inl (wI (x3 + 1)), .inl y5] [] h else Run d 161 5 [.inr (.inr (.inl 10)), .inl x0, .inr (.inl (wL (x1 * 8))), vU, .inl (wI (x3 + 1)), .inl y5] [] h)) else none) := by
  refine (R_istore (ls' := [.inr (.inr (.inl 10)), .inl x0, .inr (.inl x1), z2, .inl x3, .inl y5]) zf161_30 (Nat.le_of_ble_eq_true rfl) rfl rfl).trans ?_
  refine (R_aload_n zf161_32 rfl zlt_10 rfl).trans ?_
  refine (R_getR zf161_33 zo_161 zfl_1_26 zk1_10 zft_1_7 zmr_10_7 rfl).trans ?_
  refine (R_iload zf161_36 rfl rfl).trans ?_
  refine (R_zald zf161_38 zk_49 rfl).trans ?_
  refine ite_congr rfl (fun c1_ => ?_) (fun _ => rfl)
  refine (R_if_eq (t := 62) zf161_39 rfl rfl).trans ?_
  refine ite_congr rfl (fun c2_ => ?_) (fun c2_ => ?_)
  · refine (R_lload_n zf161_62 rfl rfl).trans ?_
    refine (R_iload zf161_63 rfl rfl).trans ?_
    refine (R_if_eq (t := 74) zf161_65 rfl rfl).trans ?_
    refine ite_congr rfl (fun c3_ => ?_) (fun c3_ => ?_)
    · refine (R_ldc2_w zf161_74 zo_161 zll_1_103 rfl).trans ?_
      refine (R_lmul zf161_77 rfl).trans ?_
      refine (R_lstore_n (ls' := [.inr (.inr (.inl 10)), .inl x0, .inr (.inl (wL (x1 * 7))), vU, .inl x3, .inl y5]) zf161_78 (Nat.le_of_ble_eq_true rfl) rfl rfl).trans ?_
      refine (R_iinc (ls' := [.inr (.inr (.inl 10)), .inl x0, .inr (.inl (wL (x1 * 7))), vU, .inl (wI (x3 + 1)), .inl y5]) zf161_79 rfl rfl rfl).trans ?_
      refine (R_goto (t := 5) zf161_82 rfl).trans ?_
      rfl
    · refine (R_ldc2_w zf161_68 zo_161 zll_1_101 rfl).trans ?_
      refine (R_goto (t := 77) zf161_71 rfl).trans ?_
      refine (R_lmul zf161_77 rfl).trans ?_
      refine (R_lstore_n (ls' := [.inr (.inr (.inl 10)), .inl x0, .inr (.inl (wL (x1 * 2))), vU, .inl x3, .inl y5]) zf161_78 (Nat.le_of_ble_eq_true rfl) rfl rfl).trans ?_
      refine (R_iinc (ls' := [.inr (.inr (.inl 10)), .inl x0, .inr (.inl (wL (x1 * 2))), vU, .inl (wI (x3 + 1)), .inl y5]) zf161_79 rfl rfl rfl).trans ?_
      refine (R_goto (t := 5) zf161_82 rfl).trans ?_
      rfl
  · refine (R_lload_n zf161_42 rfl rfl).trans ?_
    refine (R_iload zf161_43 rfl rfl).trans ?_
    refine (R_if_eq (t := 54) zf161_45 rfl rfl).trans ?_
    refine ite_congr rfl (fun c4_ => ?_) (fun c4_ => ?_)
    · refine (R_ldc2_w zf161_54 zo_161 zll_1_99 rfl).trans ?_
      refine (R_lmul zf161_57 rfl).trans ?_
      refine (R_lstore_n (ls' := [.inr (.inr (.inl 10)), .inl x0, .inr (.inl (wL (x1 * 3))), vU, .inl x3, .inl y5]) zf161_58 (Nat.le_of_ble_eq_true rfl) rfl rfl).trans ?_
      refine (R_goto (t := 79) zf161_59 rfl).trans ?_
      refine (R_iinc (ls' := [.inr (.inr (.inl 10)), .inl x0, .inr (.inl (wL (x1 * 3))), vU, .inl (wI (x3 + 1)), .inl y5]) zf161_79 rfl rfl rfl).trans ?_
      refine (R_goto (t := 5) zf161_82 rfl).trans ?_
      rfl
    · refine (R_ldc2_w zf161_48 zo_161 zll_1_97 rfl).trans ?_
      refine (R_goto (t := 57) zf161_51 rfl).trans ?_
      refine (R_lmul zf161_57 rfl).trans ?_
      refine (R_lstore_n (ls' := [.inr (.inr (.inl 10)), .inl x0, .inr (.inl (wL (x1 * 8))), vU, .inl x3, .inl y5]) zf161_58 (Nat.le_of_ble_eq_true rfl) rfl rfl).trans ?_
      refine (R_goto (t := 79) zf161_59 rfl).trans ?_
      refine (R_iinc (ls' := [.inr (.inr (.inl 10)), .inl x0, .inr (.inl (wL (x1 * 8))), vU, .inl (wI (x3 + 1)), .inl y5]) zf161_79 rfl rfl rfl).trans ?_
      refine (R_goto (t := 5) zf161_82 rfl).trans ?_
      rfl
-- CannonPostModel.look()I at 43
theorem q188_43 (d : Nat) (h : MH) : Run d 188 43 [.inr (.inr (.inl 97))] [] h = (if (h 97 9) ≤ (h 97 10) then some (some (.inl (-1)), h) else (if h 97 5 = 98 then (if 0 ≤ (wI ((h 97 8) + (h 97 10))) ∧ (wI ((h 97 8) + (h 97 10))) < 240 then some (some (.inl (iAnd (h 98 (wI ((h 97 8) + (h 97 10))).toNat) 255)), h) else none) else (if h 97 5 = 99 then (if 0 ≤ (wI ((h 97 8) + (h 97 10))) ∧ (wI ((h 97 8) + (h 97 10))) < 960 then some (some (.inl (iAnd (h 99 (wI ((h 97 8) + (h 97 10))).toNat) 255)), h) else none) else Run d 188 55 [.inr (.inr (.inl 97))] [.inr (.inr (.inl 97))] h))) := by
  refine (R_aload_n zf188_43 rfl zlt_97 rfl).trans ?_
  refine (R_getI zf188_44 zo_188 zfl_12_119 zk1_97 zft_12_10 rfl).trans ?_
  refine (R_aload_n zf188_47 rfl zlt_97 rfl).trans ?_
  refine (R_getI zf188_48 zo_188 zfl_12_122 zk1_97 zft_12_9 rfl).trans ?_
  refine (R_icmp_ge (t := 75) zf188_51 rfl rfl).trans ?_
  refine ite_congr rfl (fun c1_ => ?_) (fun c1_ => ?_)
  · refine (R_iconst zf188_75 zw_m1 rfl).trans ?_
    exact R_ireturn_i zf188_76 zr_188
  · refine (R_aload_n zf188_54 rfl zlt_97 rfl).trans ?_
    refine (switch_if (c := h 97 5 = 98) (fun c2_ => ?_) (fun c2_ => ?_))
    · refine (R_getMc (b := 98) zf188_55 zo_188 zfl_12_23 zk1_97 zft_12_5 c2_ rfl rfl).trans ?_
      refine (R_aload_n zf188_58 rfl zlt_97 rfl).trans ?_
      refine (R_getI zf188_59 zo_188 zfl_12_125 zk1_97 zft_12_8 rfl).trans ?_
      refine (R_aload_n zf188_62 rfl zlt_97 rfl).trans ?_
      refine (R_getI zf188_63 zo_188 zfl_12_119 zk1_97 zft_12_10 rfl).trans ?_
      refine (R_iadd zf188_66 rfl).trans ?_
      refine (R_bald zf188_67 zk_98 rfl).trans ?_
      refine ite_congr rfl (fun c3_ => ?_) (fun _ => rfl)
      refine (R_sipush zf188_68 zs_255 rfl).trans ?_
      refine (R_iand zf188_71 rfl).trans ?_
      refine (R_goto (t := 76) zf188_72 rfl).trans ?_
      exact R_ireturn_i zf188_76 zr_188
    refine (switch_if (c := h 97 5 = 99) (fun c4_ => ?_) (fun c4_ => ?_))
    · refine (R_getMc (b := 99) zf188_55 zo_188 zfl_12_23 zk1_97 zft_12_5 c4_ rfl rfl).trans ?_
      refine (R_aload_n zf188_58 rfl zlt_97 rfl).trans ?_
      refine (R_getI zf188_59 zo_188 zfl_12_125 zk1_97 zft_12_8 rfl).trans ?_
      refine (R_aload_n zf188_62 rfl zlt_97 rfl).trans ?_
      refine (R_getI zf188_63 zo_188 zfl_12_119 zk1_97 zft_12_10 rfl).trans ?_
      refine (R_iadd zf188_66 rfl).trans ?_
      refine (R_bald zf188_67 zk_99 rfl).trans ?_
      refine ite_congr rfl (fun c5_ => ?_) (fun _ => rfl)
      refine (R_sipush zf188_68 zs_255 rfl).trans ?_
      refine (R_iand zf188_71 rfl).trans ?_
      refine (R_goto (t := 76) zf188_72 rfl).trans ?_
      exact R_ireturn_i zf188_76 zr_188
    rfl
-- CannonPostModel.spotOf(Ljava/lang/String;I)I at 0
theorem q191_0 (d : Nat) (x0 : Int) (h : MH) : Run (d + 1) 191 0 [.inr (.inr (.inl 130)), .inl x0, vU] [] h = Run (d + 1) 191 2 [.inr (.inr (.inl 130)), .inl x0, .inl 0] [] h := by
  refine (R_iconst zf191_0 zw_0 rfl).trans ?_
  refine (R_istore_n (ls' := [.inr (.inr (.inl 130)), .inl x0, .inl 0]) zf191_1 (Nat.le_of_ble_eq_true rfl) rfl rfl).trans ?_
  rfl
-- CannonPostModel.digit(I)I at 0
theorem q215_0 (d : Nat) (x0 : Int) (h : MH) : Run (d + 1) 215 0 [.inr (.inr (.inl 97)), .inl x0, vU] [] h = (cI (Run d 188 0 [.inr (.inr (.inl 97))] [] h) fun a2_ h1_ => (cI (Run d 196 0 [.inr (.inr (.inl 97))] [] h1_) fun a4_ h3_ => (if a4_ = 0 then (cI (Run d 189 0 [.inr (.inr (.inl 97))] [] h3_) fun a7_ h6_ => some (some (.inl 0), h6_)) else (if (wI (a2_ - 48)) ≤ x0 then some (some (.inl (wI (a2_ - 48))), (up h3_ 97 10 (wI ((h3_ 97 10) + 1)))) else (cI (Run d 189 0 [.inr (.inr (.inl 97))] [] h3_) fun a10_ h9_ => some (some (.inl 0), h9_)))))) := by
  refine (R_aload_n zf215_0 rfl zlt_97 rfl).trans ?_
  refine (R_vcallI zf215_1 zo_215 zvl_12_138 (by rw [zr_188]; rfl) zl_188 (Nat.le_of_ble_eq_true rfl) rfl rfl (Nat.le_of_ble_eq_true rfl) (Nat.le_of_ble_eq_true rfl) (es := [.inr (.inr (.inl 97))]) rfl rfl zk1_97 zo_188).trans ?_
  refine congrArg (cI _) (funext fun a2_ => funext fun h1_ => ?_)
  refine (R_istore_n (ls' := [.inr (.inr (.inl 97)), .inl x0, .inl a2_]) zf215_4 (Nat.le_of_ble_eq_true rfl) rfl rfl).trans ?_
  refine (R_aload_n zf215_5 rfl zlt_97 rfl).trans ?_
  refine (R_vcallI zf215_6 zo_215 zvl_12_168 (by rw [zr_196]; rfl) zl_196 (Nat.le_of_ble_eq_true rfl) rfl rfl (Nat.le_of_ble_eq_true rfl) (Nat.le_of_ble_eq_true rfl) (es := [.inr (.inr (.inl 97))]) rfl rfl zk1_97 zo_196).trans ?_
  refine congrArg (cI _) (funext fun a4_ => funext fun h3_ => ?_)
  refine (R_if_eq (t := 20) zf215_9 rfl rfl).trans ?_
  refine ite_congr rfl (fun c5_ => ?_) (fun c5_ => ?_)
  · refine (R_aload_n zf215_20 rfl zlt_97 rfl).trans ?_
    refine (R_vcallI zf215_21 zo_215 zvl_12_134 (by rw [zr_189]; rfl) zl_189 (Nat.le_of_ble_eq_true rfl) rfl rfl (Nat.le_of_ble_eq_true rfl) (Nat.le_of_ble_eq_true rfl) (es := [.inr (.inr (.inl 97))]) rfl rfl zk1_97 zo_189).trans ?_
    refine congrArg (cI _) (funext fun a7_ => funext fun h6_ => ?_)
    refine (R_pop zf215_24 rfl rfl).trans ?_
    refine (R_iconst zf215_25 zw_0 rfl).trans ?_
    exact R_ireturn_i zf215_26 zr_215
  · refine (R_iload_n zf215_12 rfl rfl).trans ?_
    refine (R_bipush zf215_13 zb_48 rfl).trans ?_
    refine (R_isub zf215_15 rfl).trans ?_
    refine (R_iload_n zf215_16 rfl rfl).trans ?_
    refine (R_icmp_le (t := 27) zf215_17 rfl rfl).trans ?_
    refine ite_congr rfl (fun c8_ => ?_) (fun c8_ => ?_)
    · refine (R_aload_n zf215_27 rfl zlt_97 rfl).trans ?_
      refine (R_dup zf215_28 rfl rfl).trans ?_
      refine (R_getI zf215_29 zo_215 zfl_12_119 zk1_97 zft_12_10 rfl).trans ?_
      refine (R_iconst zf215_32 zw_1 rfl).trans ?_
      refine (R_iadd zf215_33 rfl).trans ?_
      refine (R_putI zf215_34 zo_215 zfl_12_119 zk1_97 zft_12_10 rfl).trans ?_
      refine (R_iload_n zf215_37 rfl rfl).trans ?_
      refine (R_bipush zf215_38 zb_48 rfl).trans ?_
      refine (R_isub zf215_40 rfl).trans ?_
      exact R_ireturn_i zf215_41 zr_215
    · refine (R_aload_n zf215_20 rfl zlt_97 rfl).trans ?_
      refine (R_vcallI zf215_21 zo_215 zvl_12_134 (by rw [zr_189]; rfl) zl_189 (Nat.le_of_ble_eq_true rfl) rfl rfl (Nat.le_of_ble_eq_true rfl) (Nat.le_of_ble_eq_true rfl) (es := [.inr (.inr (.inl 97))]) rfl rfl zk1_97 zo_189).trans ?_
      refine congrArg (cI _) (funext fun a10_ => funext fun h9_ => ?_)
      refine (R_pop zf215_24 rfl rfl).trans ?_
      refine (R_iconst zf215_25 zw_0 rfl).trans ?_
      exact R_ireturn_i zf215_26 zr_215
-- CannonPostModel.readStep(I)V at 104
theorem q214_104 (d : Nat) (x0 : Int) (x1 : Int) (z2 : MV) (hz2 : cat z2 = 1) (y3 : Int) (y4 : Int) (h : MH) : Run (d + 1) 214 104 [.inr (.inr (.inl 97)), .inl x0, .inl x1, z2] [.inl y3, .inr (.inr (.inl 97)), .inl y4, .inr (.inr (.inl 108))] h = (cI (Run d 215 0 [.inr (.inr (.inl 97)), .inl y3, vU] [] h) fun a2_ h1_ => (if 0 ≤ y4 ∧ y4 < 320 then (if ¬ ((up h1_ 108 y4.toNat a2_) 97 11) = (-1) then some (none, (up h1_ 108 y4.toNat a2_)) else (if x1 = 0 then (cI (Run d 215 0 [.inr (.inr (.inl 97)), .inl 9, vU] [] (up h1_ 108 y4.toNat a2_)) fun a7_ h6_ => (if ¬ (h6_ 97 11) = (-1) then some (none, h6_) else (cI (Run d 215 0 [.inr (.inr (.inl 97)), .inl 9, vU] [] h6_) fun a10_ h9_ => (if 0 ≤ (wI (x0 + 3)) ∧ (wI (x0 + 3)) < 320 then some (none, (up h9_ 108 (wI (x0 + 3)).toNat (wI ((wI (10 * a7_)) + a10_)))) else none)))) else some (none, (up h1_ 108 y4.toNat a2_)))) else none)) := by
  refine (R_vcallI zf214_104 zo_214 zvl_12_269 (by rw [zr_215]; rfl) zl_215 (Nat.le_of_ble_eq_true rfl) rfl rfl (Nat.le_of_ble_eq_true rfl) (Nat.le_of_ble_eq_true rfl) (es := [.inr (.inr (.inl 97)), .inl y3, vU]) rfl rfl zk1_97 zo_215).trans ?_
  refine congrArg (cI _) (funext fun a2_ => funext fun h1_ => ?_)
  refine (R_iast zf214_107 zk_108 rfl).trans ?_
  refine ite_congr rfl (fun c3_ => ?_) (fun _ => rfl)
  refine (R_aload_n zf214_108 rfl zlt_97 rfl).trans ?_
  refine (R_getI zf214_109 zo_214 zfl_12_128 zk1_97 zft_12_11 rfl).trans ?_
  refine (R_iconst zf214_112 zw_m1 rfl).trans ?_
  refine (R_icmp_ne (t := 120) zf214_113 rfl rfl).trans ?_
  refine ite_congr rfl (fun c4_ => ?_) (fun c4_ => ?_)
  · exact R_return zf214_120 zr_214
  · refine (R_iload_n zf214_116 rfl rfl).trans ?_
    refine (R_if_eq (t := 121) zf214_117 rfl rfl).trans ?_
    refine ite_congr rfl (fun c5_ => ?_) (fun c5_ => ?_)
    · refine (R_aload_n zf214_121 rfl zlt_97 rfl).trans ?_
      refine (R_bipush zf214_122 zb_9 rfl).trans ?_
      refine (R_vcallI zf214_124 zo_214 zvl_12_269 (by rw [zr_215]; rfl) zl_215 (Nat.le_of_ble_eq_true rfl) rfl rfl (Nat.le_of_ble_eq_true rfl) (Nat.le_of_ble_eq_true rfl) (es := [.inr (.inr (.inl 97)), .inl 9, vU]) rfl rfl zk1_97 zo_215).trans ?_
      refine congrArg (cI _) (funext fun a7_ => funext fun h6_ => ?_)
      refine (R_istore_n (ls' := [.inr (.inr (.inl 97)), .inl x0, .inl x1, .inl a7_]) zf214_127 (Nat.le_of_ble_eq_true rfl) rfl rfl).trans ?_
      refine (R_aload_n zf214_128 rfl zlt_97 rfl).trans ?_
      refine (R_getI zf214_129 zo_214 zfl_12_128 zk1_97 zft_12_11 rfl).trans ?_
      refine (R_iconst zf214_132 zw_m1 rfl).trans ?_
      refine (R_icmp_ne (t := 155) zf214_133 rfl rfl).trans ?_
      refine ite_congr rfl (fun c8_ => ?_) (fun c8_ => ?_)
      · exact R_return zf214_155 zr_214
      · refine (R_aload_n zf214_136 rfl zlt_97 rfl).trans ?_
        refine (R_getR zf214_137 zo_214 zfl_12_55 zk1_97 zft_12_24 zmr_97_24 rfl).trans ?_
        refine (R_iload_n zf214_140 rfl rfl).trans ?_
        refine (R_iconst zf214_141 zw_3 rfl).trans ?_
        refine (R_iadd zf214_142 rfl).trans ?_
        refine (R_bipush zf214_143 zb_10 rfl).trans ?_
        refine (R_iload_n zf214_145 rfl rfl).trans ?_
        refine (R_imul zf214_146 rfl).trans ?_
        refine (R_aload_n zf214_147 rfl zlt_97 rfl).trans ?_
        refine (R_bipush zf214_148 zb_9 rfl).trans ?_
        refine (R_vcallI zf214_150 zo_214 zvl_12_269 (by rw [zr_215]; rfl) zl_215 (Nat.le_of_ble_eq_true rfl) rfl rfl (Nat.le_of_ble_eq_true rfl) (Nat.le_of_ble_eq_true rfl) (es := [.inr (.inr (.inl 97)), .inl 9, vU]) rfl rfl zk1_97 zo_215).trans ?_
        refine congrArg (cI _) (funext fun a10_ => funext fun h9_ => ?_)
        refine (R_iadd zf214_153 rfl).trans ?_
        refine (R_iast zf214_154 zk_108 rfl).trans ?_
        refine ite_congr rfl (fun c11_ => ?_) (fun _ => rfl)
        exact R_return zf214_155 zr_214
    · exact R_return zf214_120 zr_214
-- CannonPostModel.isAmong(Ljava/lang/String;I)Z at 2
theorem q201_2 (d : Nat) (x0 : Int) (x1 : Int) (h : MH) : Run (d + 1) 201 2 [.inr (.inr (.inl 126)), .inl x0, .inl x1] [] h = (cI (Run d 28 0 [.inr (.inr (.inl 126))] [] h) fun a2_ h1_ => (if a2_ ≤ x1 then some (some (.inl 0), h1_) else (cI (Run d 11 0 [.inr (.inr (.inl 126)), .inl x1] [] h1_) fun a5_ h4_ => (if ¬ a5_ = x0 then Run (d + 1) 201 2 [.inr (.inr (.inl 126)), .inl x0, .inl (wI (x1 + 1))] [] h4_ else some (some (.inl 1), h4_))))) := by
  refine (R_iload_n zf201_2 rfl rfl).trans ?_
  refine (R_aload_n zf201_3 rfl zlt_126 rfl).trans ?_
  refine (R_vcallI zf201_4 zo_201 zvl_12_99 (by rw [zr_28]; rfl) zl_28 (Nat.le_of_ble_eq_true rfl) rfl rfl (Nat.le_of_ble_eq_true rfl) (Nat.le_of_ble_eq_true rfl) (es := [.inr (.inr (.inl 126))]) rfl rfl zk1_126 zo_28).trans ?_
  refine congrArg (cI _) (funext fun a2_ => funext fun h1_ => ?_)
  refine (R_icmp_ge (t := 27) zf201_7 rfl rfl).trans ?_
  refine ite_congr rfl (fun c3_ => ?_) (fun c3_ => ?_)
  · refine (R_iconst zf201_27 zw_0 rfl).trans ?_
    exact R_ireturn zf201_28 (by rw [zr_201]; rfl)
  · refine (R_aload_n zf201_10 rfl zlt_126 rfl).trans ?_
    refine (R_iload_n zf201_11 rfl rfl).trans ?_
    refine (R_vcallI zf201_12 zo_201 zvl_12_105 (by rw [zr_11]; rfl) zl_11 (Nat.le_of_ble_eq_true rfl) rfl rfl (Nat.le_of_ble_eq_true rfl) (Nat.le_of_ble_eq_true rfl) (es := [.inr (.inr (.inl 126)), .inl x1]) rfl rfl zk1_126 zo_11).trans ?_
    refine congrArg (cI _) (funext fun a5_ => funext fun h4_ => ?_)
    refine (R_iload_n zf201_15 rfl rfl).trans ?_
    refine (R_icmp_ne (t := 21) zf201_16 rfl rfl).trans ?_
    refine ite_congr rfl (fun c6_ => ?_) (fun c6_ => ?_)
    · refine (R_iinc (ls' := [.inr (.inr (.inl 126)), .inl x0, .inl (wI (x1 + 1))]) zf201_21 rfl rfl rfl).trans ?_
      refine (R_goto (t := 2) zf201_24 rfl).trans ?_
      rfl
    · refine (R_iconst zf201_19 zw_1 rfl).trans ?_
      exact R_ireturn zf201_20 (by rw [zr_201]; rfl)
-- CannonPostModel.part(ZI)Z at 0
theorem q204_0 (d : Nat) (x0 : Int) (x1 : Int) (h : MH) : Run (d + 1) 204 0 [.inr (.inr (.inl 97)), .inl x0, .inl x1, vU, vU] [] h = (if x0 = 0 then (cI (Run d 212 0 [.inr (.inr (.inl 97)), vU, vU] [] h) fun a3_ h2_ => Run (d + 1) 204 18 [.inr (.inr (.inl 97)), .inl x0, .inl x1, .inl a3_, vU] [] h2_) else (cI (Run d 205 0 [.inr (.inr (.inl 97)), .inl 1, .inl x1, vU, vU, vU] [] h) fun a5_ h4_ => Run (d + 1) 204 18 [.inr (.inr (.inl 97)), .inl x0, .inl x1, .inl a5_, vU] [] h4_)) := by
  refine (R_iload_n zf204_0 rfl rfl).trans ?_
  refine (R_if_eq (t := 13) zf204_1 rfl rfl).trans ?_
  refine ite_congr rfl (fun c1_ => ?_) (fun c1_ => ?_)
  · refine (R_aload_n zf204_13 rfl zlt_97 rfl).trans ?_
    refine (R_vcallI zf204_14 zo_204 zvl_12_184 (by rw [zr_212]; rfl) zl_212 (Nat.le_of_ble_eq_true rfl) rfl rfl (Nat.le_of_ble_eq_true rfl) (Nat.le_of_ble_eq_true rfl) (es := [.inr (.inr (.inl 97)), vU, vU]) rfl rfl zk1_97 zo_212).trans ?_
    refine congrArg (cI _) (funext fun a3_ => funext fun h2_ => ?_)
    refine (R_istore_n (ls' := [.inr (.inr (.inl 97)), .inl x0, .inl x1, .inl a3_, vU]) zf204_17 (Nat.le_of_ble_eq_true rfl) rfl rfl).trans ?_
    rfl
  · refine (R_aload_n zf204_4 rfl zlt_97 rfl).trans ?_
    refine (R_iconst zf204_5 zw_1 rfl).trans ?_
    refine (R_iload_n zf204_6 rfl rfl).trans ?_
    refine (R_vcallI zf204_7 zo_204 zvl_12_191 (by rw [zr_205]; rfl) zl_205 (Nat.le_of_ble_eq_true rfl) rfl rfl (Nat.le_of_ble_eq_true rfl) (Nat.le_of_ble_eq_true rfl) (es := [.inr (.inr (.inl 97)), .inl 1, .inl x1, vU, vU, vU]) rfl rfl zk1_97 zo_205).trans ?_
    refine congrArg (cI _) (funext fun a5_ => funext fun h4_ => ?_)
    refine (R_goto (t := 17) zf204_10 rfl).trans ?_
    refine (R_istore_n (ls' := [.inr (.inr (.inl 97)), .inl x0, .inl x1, .inl a5_, vU]) zf204_17 (Nat.le_of_ble_eq_true rfl) rfl rfl).trans ?_
    rfl
-- CannonPostModel.condition(ZI)Z at 7
theorem q203_7 (d : Nat) (z0 : MV) (hz0 : cat z0 = 1) (z1 : MV) (hz1 : cat z1 = 1) (x2 : Int) (z3 : MV) (hz3 : cat z3 = 1) (h : MH) : Run (d + 1) 203 7 [.inr (.inr (.inl 97)), z0, z1, .inl x2, z3] [] h = (if ¬ (h 97 11) = (-1) then (if x2 = 0 ∨ x2 = 1 then some (some (.inl x2), h) else none) else (cI (Run d 188 0 [.inr (.inr (.inl 97))] [] h) fun a3_ h2_ => (if ¬ a3_ = 124 then (if x2 = 0 ∨ x2 = 1 then some (some (.inl x2), h2_) else none) else (cI (Run d 204 0 [.inr (.inr (.inl 97)), .inl 0, .inl 0, vU, vU] [] (up h2_ 97 10 (wI ((h2_ 97 10) + 1)))) fun a6_ h5_ => (if ¬ x2 = 0 then Run (d + 1) 203 7 [.inr (.inr (.inl 97)), z0, z1, .inl 1, .inl a6_] [] h5_ else (if a6_ = 0 then Run (d + 1) 203 7 [.inr (.inr (.inl 97)), z0, z1, .inl 0, .inl a6_] [] h5_ else Run (d + 1) 203 7 [.inr (.inr (.inl 97)), z0, z1, .inl 1, .inl a6_] [] h5_)))))) := by
  refine (R_aload_n zf203_7 rfl zlt_97 rfl).trans ?_
  refine (R_getI zf203_8 zo_203 zfl_12_128 zk1_97 zft_12_11 rfl).trans ?_
  refine (R_iconst zf203_11 zw_m1 rfl).trans ?_
  refine (R_icmp_ne (t := 60) zf203_12 rfl rfl).trans ?_
  refine ite_congr rfl (fun c1_ => ?_) (fun c1_ => ?_)
  · refine (R_iload_n zf203_60 rfl rfl).trans ?_
    exact R_ireturn_z zf203_61 zr_203
  · refine (R_aload_n zf203_15 rfl zlt_97 rfl).trans ?_
    refine (R_vcallI zf203_16 zo_203 zvl_12_138 (by rw [zr_188]; rfl) zl_188 (Nat.le_of_ble_eq_true rfl) rfl rfl (Nat.le_of_ble_eq_true rfl) (Nat.le_of_ble_eq_true rfl) (es := [.inr (.inr (.inl 97))]) rfl rfl zk1_97 zo_188).trans ?_
    refine congrArg (cI _) (funext fun a3_ => funext fun h2_ => ?_)
    refine (R_bipush zf203_19 zb_124 rfl).trans ?_
    refine (R_icmp_ne (t := 60) zf203_21 rfl rfl).trans ?_
    refine ite_congr rfl (fun c4_ => ?_) (fun c4_ => ?_)
    · refine (R_iload_n zf203_60 rfl rfl).trans ?_
      exact R_ireturn_z zf203_61 zr_203
    · refine (R_aload_n zf203_24 rfl zlt_97 rfl).trans ?_
      refine (R_dup zf203_25 rfl rfl).trans ?_
      refine (R_getI zf203_26 zo_203 zfl_12_119 zk1_97 zft_12_10 rfl).trans ?_
      refine (R_iconst zf203_29 zw_1 rfl).trans ?_
      refine (R_iadd zf203_30 rfl).trans ?_
      refine (R_putI zf203_31 zo_203 zfl_12_119 zk1_97 zft_12_10 rfl).trans ?_
      refine (R_aload_n zf203_34 rfl zlt_97 rfl).trans ?_
      refine (R_iconst zf203_35 zw_0 rfl).trans ?_
      refine (R_iconst zf203_36 zw_0 rfl).trans ?_
      refine (R_vcallI zf203_37 zo_203 zvl_12_194 (by rw [zr_204]; rfl) zl_204 (Nat.le_of_ble_eq_true rfl) rfl rfl (Nat.le_of_ble_eq_true rfl) (Nat.le_of_ble_eq_true rfl) (es := [.inr (.inr (.inl 97)), .inl 0, .inl 0, vU, vU]) rfl rfl zk1_97 zo_204).trans ?_
      refine congrArg (cI _) (funext fun a6_ => funext fun h5_ => ?_)
      refine (R_istore (ls' := [.inr (.inr (.inl 97)), z0, z1, .inl x2, .inl a6_]) zf203_40 (Nat.le_of_ble_eq_true rfl) rfl rfl).trans ?_
      refine (R_iload_n zf203_42 rfl rfl).trans ?_
      refine (R_if_ne (t := 51) zf203_43 rfl rfl).trans ?_
      refine ite_congr rfl (fun c7_ => ?_) (fun c7_ => ?_)
      · refine (R_iconst zf203_51 zw_1 rfl).trans ?_
        refine (R_goto (t := 56) zf203_52 rfl).trans ?_
        refine (R_istore_n (ls' := [.inr (.inr (.inl 97)), z0, z1, .inl 1, .inl a6_]) zf203_56 (Nat.le_of_ble_eq_true rfl) (st1_z rfl hz1 rfl) rfl).trans ?_
        refine (R_goto (t := 7) zf203_57 rfl).trans ?_
        rfl
      · refine (R_iload zf203_46 rfl rfl).trans ?_
        refine (R_if_eq (t := 55) zf203_48 rfl rfl).trans ?_
        refine ite_congr rfl (fun c8_ => ?_) (fun c8_ => ?_)
        · refine (R_iconst zf203_55 zw_0 rfl).trans ?_
          refine (R_istore_n (ls' := [.inr (.inr (.inl 97)), z0, z1, .inl 0, .inl a6_]) zf203_56 (Nat.le_of_ble_eq_true rfl) (st1_z rfl hz1 rfl) rfl).trans ?_
          refine (R_goto (t := 7) zf203_57 rfl).trans ?_
          rfl
        · refine (R_iconst zf203_51 zw_1 rfl).trans ?_
          refine (R_goto (t := 56) zf203_52 rfl).trans ?_
          refine (R_istore_n (ls' := [.inr (.inr (.inl 97)), z0, z1, .inl 1, .inl a6_]) zf203_56 (Nat.le_of_ble_eq_true rfl) (st1_z rfl hz1 rfl) rfl).trans ?_
          refine (R_goto (t := 7) zf203_57 rfl).trans ?_
          rfl
-- CannonPostModel.term()I at 0
theorem q207_0 (d : Nat) (h : MH) : Run (d + 1) 207 0 [.inr (.inr (.inl 97)), vU, vU, vU, vU] [] h = (cI (Run d 208 0 [.inr (.inr (.inl 97)), vU, vU, vU] [] h) fun a2_ h1_ => Run (d + 1) 207 5 [.inr (.inr (.inl 97)), .inl a2_, vU, vU, vU] [] h1_) := by
  refine (R_aload_n zf207_0 rfl zlt_97 rfl).trans ?_
  refine (R_vcallI zf207_1 zo_207 zvl_12_171 (by rw [zr_208]; rfl) zl_208 (Nat.le_of_ble_eq_true rfl) rfl rfl (Nat.le_of_ble_eq_true rfl) (Nat.le_of_ble_eq_true rfl) (es := [.inr (.inr (.inl 97)), vU, vU, vU]) rfl rfl zk1_97 zo_208).trans ?_
  refine congrArg (cI _) (funext fun a2_ => funext fun h1_ => ?_)
  refine (R_istore_n (ls' := [.inr (.inr (.inl 97)), .inl a2_, vU, vU, vU]) zf207_4 (Nat.le_of_ble_eq_true rfl) rfl rfl).trans ?_
  rfl
-- CannonPostModel.sum()I at 5
theorem q206_5 (d : Nat) (x0 : Int) (z1 : MV) (hz1 : cat z1 = 1) (z2 : MV) (hz2 : cat z2 = 1) (z3 : MV) (hz3 : cat z3 = 1) (h : MH) : Run (d + 1) 206 5 [.inr (.inr (.inl 97)), .inl x0, z1, z2, z3] [] h = (if ¬ (h 97 11) = (-1) then some (some (.inl x0), h) else (cI (Run d 188 0 [.inr (.inr (.inl 97))] [] h) fun a3_ h2_ => (if a3_ = 43 then (cI (Run d 188 0 [.inr (.inr (.inl 97))] [] h2_) fun a6_ h5_ => (if ¬ a6_ = 43 then Run (d + 1) 206 45 [.inr (.inr (.inl 97)), .inl x0, z1, z2, z3] [.inl 0] h5_ else Run (d + 1) 206 45 [.inr (.inr (.inl 97)), .inl x0, z1, z2, z3] [.inl 1] h5_)) else (cI (Run d 188 0 [.inr (.inr (.inl 97))] [] h2_) fun a9_ h8_ => (if ¬ a9_ = 45 then some (some (.inl x0), h8_) else (cI (Run d 188 0 [.inr (.inr (.inl 97))] [] h8_) fun a12_ h11_ => (if ¬ a12_ = 43 then Run (d + 1) 206 45 [.inr (.inr (.inl 97)), .inl x0, z1, z2, z3] [.inl 0] h11_ else Run (d + 1) 206 45 [.inr (.inr (.inl 97)), .inl x0, z1, z2, z3] [.inl 1] h11_))))))) := by
  refine (R_aload_n zf206_5 rfl zlt_97 rfl).trans ?_
  refine (R_getI zf206_6 zo_206 zfl_12_128 zk1_97 zft_12_11 rfl).trans ?_
  refine (R_iconst zf206_9 zw_m1 rfl).trans ?_
  refine (R_icmp_ne (t := 84) zf206_10 rfl rfl).trans ?_
  refine ite_congr rfl (fun c1_ => ?_) (fun c1_ => ?_)
  · refine (R_iload_n zf206_84 rfl rfl).trans ?_
    exact R_ireturn_i zf206_85 zr_206
  · refine (R_aload_n zf206_13 rfl zlt_97 rfl).trans ?_
    refine (R_vcallI zf206_14 zo_206 zvl_12_138 (by rw [zr_188]; rfl) zl_188 (Nat.le_of_ble_eq_true rfl) rfl rfl (Nat.le_of_ble_eq_true rfl) (Nat.le_of_ble_eq_true rfl) (es := [.inr (.inr (.inl 97))]) rfl rfl zk1_97 zo_188).trans ?_
    refine congrArg (cI _) (funext fun a3_ => funext fun h2_ => ?_)
    refine (R_bipush zf206_17 zb_43 rfl).trans ?_
    refine (R_icmp_eq (t := 31) zf206_19 rfl rfl).trans ?_
    refine ite_congr rfl (fun c4_ => ?_) (fun c4_ => ?_)
    · refine (R_aload_n zf206_31 rfl zlt_97 rfl).trans ?_
      refine (R_vcallI zf206_32 zo_206 zvl_12_138 (by rw [zr_188]; rfl) zl_188 (Nat.le_of_ble_eq_true rfl) rfl rfl (Nat.le_of_ble_eq_true rfl) (Nat.le_of_ble_eq_true rfl) (es := [.inr (.inr (.inl 97))]) rfl rfl zk1_97 zo_188).trans ?_
      refine congrArg (cI _) (funext fun a6_ => funext fun h5_ => ?_)
      refine (R_bipush zf206_35 zb_43 rfl).trans ?_
      refine (R_icmp_ne (t := 44) zf206_37 rfl rfl).trans ?_
      refine ite_congr rfl (fun c7_ => ?_) (fun c7_ => ?_)
      · refine (R_iconst zf206_44 zw_0 rfl).trans ?_
        rfl
      · refine (R_iconst zf206_40 zw_1 rfl).trans ?_
        refine (R_goto (t := 45) zf206_41 rfl).trans ?_
        rfl
    · refine (R_aload_n zf206_22 rfl zlt_97 rfl).trans ?_
      refine (R_vcallI zf206_23 zo_206 zvl_12_138 (by rw [zr_188]; rfl) zl_188 (Nat.le_of_ble_eq_true rfl) rfl rfl (Nat.le_of_ble_eq_true rfl) (Nat.le_of_ble_eq_true rfl) (es := [.inr (.inr (.inl 97))]) rfl rfl zk1_97 zo_188).trans ?_
      refine congrArg (cI _) (funext fun a9_ => funext fun h8_ => ?_)
      refine (R_bipush zf206_26 zb_45 rfl).trans ?_
      refine (R_icmp_ne (t := 84) zf206_28 rfl rfl).trans ?_
      refine ite_congr rfl (fun c10_ => ?_) (fun c10_ => ?_)
      · refine (R_iload_n zf206_84 rfl rfl).trans ?_
        exact R_ireturn_i zf206_85 zr_206
      · refine (R_aload_n zf206_31 rfl zlt_97 rfl).trans ?_
        refine (R_vcallI zf206_32 zo_206 zvl_12_138 (by rw [zr_188]; rfl) zl_188 (Nat.le_of_ble_eq_true rfl) rfl rfl (Nat.le_of_ble_eq_true rfl) (Nat.le_of_ble_eq_true rfl) (es := [.inr (.inr (.inl 97))]) rfl rfl zk1_97 zo_188).trans ?_
        refine congrArg (cI _) (funext fun a12_ => funext fun h11_ => ?_)
        refine (R_bipush zf206_35 zb_43 rfl).trans ?_
        refine (R_icmp_ne (t := 44) zf206_37 rfl rfl).trans ?_
        refine ite_congr rfl (fun c13_ => ?_) (fun c13_ => ?_)
        · refine (R_iconst zf206_44 zw_0 rfl).trans ?_
          rfl
        · refine (R_iconst zf206_40 zw_1 rfl).trans ?_
          refine (R_goto (t := 45) zf206_41 rfl).trans ?_
          rfl
-- CannonPostModel.isWhole()Z at 0
theorem q198_0 (d : Nat) (h : MH) : Run d 198 0 [.inr (.inr (.inl 97)), vU, vU] [] h = Run d 198 2 [.inr (.inr (.inl 97)), .inl 0, vU] [] h := by
  refine (R_iconst zf198_0 zw_0 rfl).trans ?_
  refine (R_istore_n (ls' := [.inr (.inr (.inl 97)), .inl 0, vU]) zf198_1 (Nat.le_of_ble_eq_true rfl) rfl rfl).trans ?_
  rfl
-- CannonPostModel.readClause()V at 18
theorem q187_18 (d : Nat) (x0 : Int) (z1 : MV) (hz1 : cat z1 = 1) (h : MH) : Run (d + 1) 187 18 [.inr (.inr (.inl 97)), .inl x0, z1] [] h = (if ¬ x0 = 102 then (if ¬ x0 = 99 then Run (d + 1) 187 52 [.inr (.inr (.inl 97)), .inl x0, z1] [.inl 0] h else (if 5 ≤ (h 97 29) then Run (d + 1) 187 52 [.inr (.inr (.inl 97)), .inl x0, z1] [.inl 0] h else Run (d + 1) 187 52 [.inr (.inr (.inl 97)), .inl x0, z1] [.inl 1] h)) else (if (h 97 28) < 8 then Run (d + 1) 187 52 [.inr (.inr (.inl 97)), .inl x0, z1] [.inl 1] h else (if ¬ x0 = 99 then Run (d + 1) 187 52 [.inr (.inr (.inl 97)), .inl x0, z1] [.inl 0] h else (if 5 ≤ (h 97 29) then Run (d + 1) 187 52 [.inr (.inr (.inl 97)), .inl x0, z1] [.inl 0] h else Run (d + 1) 187 52 [.inr (.inr (.inl 97)), .inl x0, z1] [.inl 1] h)))) := by
  refine (R_iload_n zf187_18 rfl rfl).trans ?_
  refine (R_bipush zf187_19 zb_102 rfl).trans ?_
  refine (R_icmp_ne (t := 33) zf187_21 rfl rfl).trans ?_
  refine ite_congr rfl (fun c1_ => ?_) (fun c1_ => ?_)
  · refine (R_iload_n zf187_33 rfl rfl).trans ?_
    refine (R_bipush zf187_34 zb_99 rfl).trans ?_
    refine (R_icmp_ne (t := 51) zf187_36 rfl rfl).trans ?_
    refine ite_congr rfl (fun c2_ => ?_) (fun c2_ => ?_)
    · refine (R_iconst zf187_51 zw_0 rfl).trans ?_
      rfl
    · refine (R_aload_n zf187_39 rfl zlt_97 rfl).trans ?_
      refine (R_getI zf187_40 zo_187 zfl_12_248 zk1_97 zft_12_29 rfl).trans ?_
      refine (R_iconst zf187_43 zw_5 rfl).trans ?_
      refine (R_icmp_ge (t := 51) zf187_44 rfl rfl).trans ?_
      refine ite_congr rfl (fun c3_ => ?_) (fun c3_ => ?_)
      · refine (R_iconst zf187_51 zw_0 rfl).trans ?_
        rfl
      · refine (R_iconst zf187_47 zw_1 rfl).trans ?_
        refine (R_goto (t := 52) zf187_48 rfl).trans ?_
        rfl
  · refine (R_aload_n zf187_24 rfl zlt_97 rfl).trans ?_
    refine (R_getI zf187_25 zo_187 zfl_12_245 zk1_97 zft_12_28 rfl).trans ?_
    refine (R_bipush zf187_28 zb_8 rfl).trans ?_
    refine (R_icmp_lt (t := 47) zf187_30 rfl rfl).trans ?_
    refine ite_congr rfl (fun c4_ => ?_) (fun c4_ => ?_)
    · refine (R_iconst zf187_47 zw_1 rfl).trans ?_
      refine (R_goto (t := 52) zf187_48 rfl).trans ?_
      rfl
    · refine (R_iload_n zf187_33 rfl rfl).trans ?_
      refine (R_bipush zf187_34 zb_99 rfl).trans ?_
      refine (R_icmp_ne (t := 51) zf187_36 rfl rfl).trans ?_
      refine ite_congr rfl (fun c5_ => ?_) (fun c5_ => ?_)
      · refine (R_iconst zf187_51 zw_0 rfl).trans ?_
        rfl
      · refine (R_aload_n zf187_39 rfl zlt_97 rfl).trans ?_
        refine (R_getI zf187_40 zo_187 zfl_12_248 zk1_97 zft_12_29 rfl).trans ?_
        refine (R_iconst zf187_43 zw_5 rfl).trans ?_
        refine (R_icmp_ge (t := 51) zf187_44 rfl rfl).trans ?_
        refine ite_congr rfl (fun c6_ => ?_) (fun c6_ => ?_)
        · refine (R_iconst zf187_51 zw_0 rfl).trans ?_
          rfl
        · refine (R_iconst zf187_47 zw_1 rfl).trans ?_
          refine (R_goto (t := 52) zf187_48 rfl).trans ?_
          rfl
-- CannonPostModel.readClause()V at 52
theorem q187_52 (d : Nat) (x0 : Int) (z1 : MV) (hz1 : cat z1 = 1) (y2 : Int) (h : MH) : Run (d + 1) 187 52 [.inr (.inr (.inl 97)), .inl x0, z1] [.inl y2] h = (if ¬ y2 = 0 then (if ¬ x0 = 115 then (if ¬ x0 = 102 then (cV (Run d 190 0 [.inr (.inr (.inl 97)), .inl x0, .inr (.inr (.inl 107)), .inl (wI (3 * (wI (((up (up h 97 10 (wI ((h 97 10) + 1))) 97 29 (wI (((up h 97 10 (wI ((h 97 10) + 1))) 97 29) + 1))) 97 29) - 1)))), .inr (.inr (.inl 129)), vU, vU] [] (up (up h 97 10 (wI ((h 97 10) + 1))) 97 29 (wI (((up h 97 10 (wI ((h 97 10) + 1))) 97 29) + 1)))) fun h4_ => some (none, h4_)) else (cV (Run d 190 0 [.inr (.inr (.inl 97)), .inl x0, .inr (.inr (.inl 105)), .inl (wI (3 * (wI (((up (up h 97 10 (wI ((h 97 10) + 1))) 97 28 (wI (((up h 97 10 (wI ((h 97 10) + 1))) 97 28) + 1))) 97 28) - 1)))), .inr (.inr (.inl 128)), vU, vU] [] (up (up h 97 10 (wI ((h 97 10) + 1))) 97 28 (wI (((up h 97 10 (wI ((h 97 10) + 1))) 97 28) + 1)))) fun h5_ => some (none, h5_))) else (cV (Run d 190 0 [.inr (.inr (.inl 97)), .inl x0, .inr (.inr (.inl 103)), .inl 0, .inr (.inr (.inl 127)), vU, vU] [] (up (up h 97 10 (wI ((h 97 10) + 1))) 97 31 1)) fun h6_ => some (none, h6_))) else (cI (Run d 189 0 [.inr (.inr (.inl 97))] [] h) fun a8_ h7_ => some (none, h7_))) := by
  refine (R_istore_n (ls' := [.inr (.inr (.inl 97)), .inl x0, .inl y2]) zf187_52 (Nat.le_of_ble_eq_true rfl) rfl rfl).trans ?_
  refine (R_iload_n zf187_53 rfl rfl).trans ?_
  refine (R_if_ne (t := 63) zf187_54 rfl rfl).trans ?_
  refine ite_congr rfl (fun c1_ => ?_) (fun c1_ => ?_)
  · refine (R_aload_n zf187_63 rfl zlt_97 rfl).trans ?_
    refine (R_dup zf187_64 rfl rfl).trans ?_
    refine (R_getI zf187_65 zo_187 zfl_12_119 zk1_97 zft_12_10 rfl).trans ?_
    refine (R_iconst zf187_68 zw_1 rfl).trans ?_
    refine (R_iadd zf187_69 rfl).trans ?_
    refine (R_putI zf187_70 zo_187 zfl_12_119 zk1_97 zft_12_10 rfl).trans ?_
    refine (R_iload_n zf187_73 rfl rfl).trans ?_
    refine (R_bipush zf187_74 zb_115 rfl).trans ?_
    refine (R_icmp_ne (t := 99) zf187_76 rfl rfl).trans ?_
    refine ite_congr rfl (fun c2_ => ?_) (fun c2_ => ?_)
    · refine (R_iload_n zf187_99 rfl rfl).trans ?_
      refine (R_bipush zf187_100 zb_102 rfl).trans ?_
      refine (R_icmp_ne (t := 138) zf187_102 rfl rfl).trans ?_
      refine ite_congr rfl (fun c3_ => ?_) (fun c3_ => ?_)
      · refine (R_aload_n zf187_138 rfl zlt_97 rfl).trans ?_
        refine (R_dup zf187_139 rfl rfl).trans ?_
        refine (R_getI zf187_140 zo_187 zfl_12_248 zk1_97 zft_12_29 rfl).trans ?_
        refine (R_iconst zf187_143 zw_1 rfl).trans ?_
        refine (R_iadd zf187_144 rfl).trans ?_
        refine (R_putI zf187_145 zo_187 zfl_12_248 zk1_97 zft_12_29 rfl).trans ?_
        refine (R_aload_n zf187_148 rfl zlt_97 rfl).trans ?_
        refine (R_iload_n zf187_149 rfl rfl).trans ?_
        refine (R_aload_n zf187_150 rfl zlt_97 rfl).trans ?_
        refine (R_getR zf187_151 zo_187 zfl_12_52 zk1_97 zft_12_23 zmr_97_23 rfl).trans ?_
        refine (R_iconst zf187_154 zw_3 rfl).trans ?_
        refine (R_aload_n zf187_155 rfl zlt_97 rfl).trans ?_
        refine (R_getI zf187_156 zo_187 zfl_12_248 zk1_97 zft_12_29 rfl).trans ?_
        refine (R_iconst zf187_159 zw_1 rfl).trans ?_
        refine (R_isub zf187_160 rfl).trans ?_
        refine (R_imul zf187_161 rfl).trans ?_
        refine (R_ldc_wS zf187_162 zo_187 zcl_12_259 zrl_12_259 rfl).trans ?_
        refine (R_vcallV zf187_165 zo_187 zvl_12_253 zr_190 zl_190 (Nat.le_of_ble_eq_true rfl) rfl rfl (Nat.le_of_ble_eq_true rfl) (Nat.le_of_ble_eq_true rfl) (es := [.inr (.inr (.inl 97)), .inl x0, .inr (.inr (.inl 107)), .inl (wI (3 * (wI (((up (up h 97 10 (wI ((h 97 10) + 1))) 97 29 (wI (((up h 97 10 (wI ((h 97 10) + 1))) 97 29) + 1))) 97 29) - 1)))), .inr (.inr (.inl 129)), vU, vU]) rfl rfl zk1_97 zo_190).trans ?_
        refine congrArg (cV _) (funext fun h4_ => ?_)
        exact R_return zf187_168 zr_187
      · refine (R_aload_n zf187_105 rfl zlt_97 rfl).trans ?_
        refine (R_dup zf187_106 rfl rfl).trans ?_
        refine (R_getI zf187_107 zo_187 zfl_12_245 zk1_97 zft_12_28 rfl).trans ?_
        refine (R_iconst zf187_110 zw_1 rfl).trans ?_
        refine (R_iadd zf187_111 rfl).trans ?_
        refine (R_putI zf187_112 zo_187 zfl_12_245 zk1_97 zft_12_28 rfl).trans ?_
        refine (R_aload_n zf187_115 rfl zlt_97 rfl).trans ?_
        refine (R_iload_n zf187_116 rfl rfl).trans ?_
        refine (R_aload_n zf187_117 rfl zlt_97 rfl).trans ?_
        refine (R_getR zf187_118 zo_187 zfl_12_46 zk1_97 zft_12_21 zmr_97_21 rfl).trans ?_
        refine (R_iconst zf187_121 zw_3 rfl).trans ?_
        refine (R_aload_n zf187_122 rfl zlt_97 rfl).trans ?_
        refine (R_getI zf187_123 zo_187 zfl_12_245 zk1_97 zft_12_28 rfl).trans ?_
        refine (R_iconst zf187_126 zw_1 rfl).trans ?_
        refine (R_isub zf187_127 rfl).trans ?_
        refine (R_imul zf187_128 rfl).trans ?_
        refine (R_ldc_wS zf187_129 zo_187 zcl_12_257 zrl_12_257 rfl).trans ?_
        refine (R_vcallV zf187_132 zo_187 zvl_12_253 zr_190 zl_190 (Nat.le_of_ble_eq_true rfl) rfl rfl (Nat.le_of_ble_eq_true rfl) (Nat.le_of_ble_eq_true rfl) (es := [.inr (.inr (.inl 97)), .inl x0, .inr (.inr (.inl 105)), .inl (wI (3 * (wI (((up (up h 97 10 (wI ((h 97 10) + 1))) 97 28 (wI (((up h 97 10 (wI ((h 97 10) + 1))) 97 28) + 1))) 97 28) - 1)))), .inr (.inr (.inl 128)), vU, vU]) rfl rfl zk1_97 zo_190).trans ?_
        refine congrArg (cV _) (funext fun h5_ => ?_)
        refine (R_goto (t := 168) zf187_135 rfl).trans ?_
        exact R_return zf187_168 zr_187
    · refine (R_aload_n zf187_79 rfl zlt_97 rfl).trans ?_
      refine (R_iconst zf187_80 zw_1 rfl).trans ?_
      refine (R_putZ zf187_81 zo_187 zfl_12_242 zk1_97 zft_12_31 rfl rfl).trans ?_
      refine (R_aload_n zf187_84 rfl zlt_97 rfl).trans ?_
      refine (R_iload_n zf187_85 rfl rfl).trans ?_
      refine (R_aload_n zf187_86 rfl zlt_97 rfl).trans ?_
      refine (R_getR zf187_87 zo_187 zfl_12_40 zk1_97 zft_12_19 zmr_97_19 rfl).trans ?_
      refine (R_iconst zf187_90 zw_0 rfl).trans ?_
      refine (R_ldcS zf187_91 zo_187 zcl_12_251 zrl_12_251 rfl).trans ?_
      refine (R_vcallV zf187_93 zo_187 zvl_12_253 zr_190 zl_190 (Nat.le_of_ble_eq_true rfl) rfl rfl (Nat.le_of_ble_eq_true rfl) (Nat.le_of_ble_eq_true rfl) (es := [.inr (.inr (.inl 97)), .inl x0, .inr (.inr (.inl 103)), .inl 0, .inr (.inr (.inl 127)), vU, vU]) rfl rfl zk1_97 zo_190).trans ?_
      refine congrArg (cV _) (funext fun h6_ => ?_)
      refine (R_goto (t := 168) zf187_96 rfl).trans ?_
      exact R_return zf187_168 zr_187
  · refine (R_aload_n zf187_57 rfl zlt_97 rfl).trans ?_
    refine (R_vcallI zf187_58 zo_187 zvl_12_134 (by rw [zr_189]; rfl) zl_189 (Nat.le_of_ble_eq_true rfl) rfl rfl (Nat.le_of_ble_eq_true rfl) (Nat.le_of_ble_eq_true rfl) (es := [.inr (.inr (.inl 97))]) rfl rfl zk1_97 zo_189).trans ?_
    refine congrArg (cI _) (funext fun a8_ => funext fun h7_ => ?_)
    refine (R_pop zf187_61 rfl rfl).trans ?_
    exact R_return zf187_62 zr_187
-- CannonPostModel.text(I)I at 300
theorem q216_300 (d : Nat) (z0 : MV) (hz0 : cat z0 = 1) (z1 : MV) (hz1 : cat z1 = 1) (x2 : Int) (h : MH) : Run (d + 1) 216 300 [.inr (.inr (.inl 97)), z0, z1, .inl x2] [] h = (if 277 ≤ x2 then Run (d + 1) 216 322 [.inr (.inr (.inl 97)), z0, z1, .inl 0] [] h else (if 0 ≤ x2 ∧ x2 < 277 then Run (d + 1) 216 300 [.inr (.inr (.inl 97)), z0, z1, .inl (wI (x2 + 1))] [] (up h 110 x2.toNat 0) else none)) := by
  refine (R_iload_n zf216_300 rfl rfl).trans ?_
  refine (R_sipush zf216_301 zs_277 rfl).trans ?_
  refine (R_icmp_ge (t := 320) zf216_304 rfl rfl).trans ?_
  refine ite_congr rfl (fun c1_ => ?_) (fun c1_ => ?_)
  · refine (R_iconst zf216_320 zw_0 rfl).trans ?_
    refine (R_istore_n (ls' := [.inr (.inr (.inl 97)), z0, z1, .inl 0]) zf216_321 (Nat.le_of_ble_eq_true rfl) (st1_z rfl hz1 rfl) rfl).trans ?_
    rfl
  · refine (R_aload_n zf216_307 rfl zlt_97 rfl).trans ?_
    refine (R_getR zf216_308 zo_216 zfl_12_61 zk1_97 zft_12_32 zmr_97_32 rfl).trans ?_
    refine (R_iload_n zf216_311 rfl rfl).trans ?_
    refine (R_iconst zf216_312 zw_0 rfl).trans ?_
    refine (R_iast zf216_313 zk_110 rfl).trans ?_
    refine ite_congr rfl (fun c2_ => ?_) (fun _ => rfl)
    refine (R_iinc (ls' := [.inr (.inr (.inl 97)), z0, z1, .inl (wI (x2 + 1))]) zf216_314 rfl (st1_z rfl hz1 rfl) rfl).trans ?_
    refine (R_goto (t := 300) zf216_317 rfl).trans ?_
    rfl
-- CannonPostModel.says([II)I at 5
theorem q250_5_1 (d : Nat) (x0 : Int) (x1 : Int) (x2 : Int) (h : MH) : Run (d + 1) 250 5 [.inr (.inr (.inl 97)), .inr (.inr (.inl 111)), .inl x0, .inl x1, .inl x2] [] h = (if 6 ≤ x2 then some (some (.inl x1), h) else (cI (Run d 217 0 [.inl x0] [] h) fun a3_ h2_ => (if 0 ≤ a3_ ∧ a3_ < 277 then (if 0 ≤ (wI (8 + (h2_ 111 a3_.toNat))) ∧ (wI (8 + (h2_ 111 a3_.toNat))) < 277 then (cI (Run d 192 0 [.inl (h2_ 111 (wI (8 + (h2_ 111 a3_.toNat))).toNat), .inl x2] [] h2_) fun a7_ h6_ => (if a7_ = 0 then Run (d + 1) 250 5 [.inr (.inr (.inl 97)), .inr (.inr (.inl 111)), .inl x0, .inl x1, .inl (wI (x2 + 1))] [] h6_ else (cI (Run d 76 0 [.inl x1] [] h6_) fun a10_ h9_ => (if (h9_ 102 3) ≤ a10_ then Run (d + 1) 250 5 [.inr (.inr (.inl 97)), .inr (.inr (.inl 111)), .inl x0, .inl x1, .inl (wI (x2 + 1))] [] h9_ else Run (d + 1) 250 5 [.inr (.inr (.inl 97)), .inr (.inr (.inl 111)), .inl x0, .inl (iOr x1 (iShl 1 x2)), .inl (wI (x2 + 1))] [] h9_)))) else none) else none))) := by
  refine (R_iload zf250_5 rfl rfl).trans ?_
  refine (R_bipush zf250_7 zb_6 rfl).trans ?_
  refine (R_icmp_ge (t := 57) zf250_9 rfl rfl).trans ?_
  refine ite_congr rfl (fun c1_ => ?_) (fun c1_ => ?_)
  · refine (R_iload_n zf250_57 rfl rfl).trans ?_
    exact R_ireturn_i zf250_58 zr_250
  · refine (R_aload_n zf250_12 rfl zlt_111 rfl).trans ?_
    refine (R_bipush zf250_13 zb_8 rfl).trans ?_
    refine (R_aload_n zf250_15 rfl zlt_111 rfl).trans ?_
    refine (R_iload_n zf250_16 rfl rfl).trans ?_
    refine (R_callI zf250_17 zo_250 zsl_12_300 (by rw [zr_217]; rfl) zl_217 (Nat.le_of_ble_eq_true rfl) rfl rfl (Nat.le_of_ble_eq_true rfl) (Nat.le_of_ble_eq_true rfl) (es := [.inl x0]) rfl rfl).trans ?_
    refine congrArg (cI _) (funext fun a3_ => funext fun h2_ => ?_)
    refine (R_iald zf250_20 zk_111 rfl).trans ?_
    refine ite_congr rfl (fun c4_ => ?_) (fun _ => rfl)
    refine (R_iadd zf250_21 rfl).trans ?_
    refine (R_iald zf250_22 zk_111 rfl).trans ?_
    refine ite_congr rfl (fun c5_ => ?_) (fun _ => rfl)
    refine (R_iload zf250_23 rfl rfl).trans ?_
    refine (R_callI zf250_25 zo_250 zsl_12_229 (by rw [zr_192]; rfl) zl_192 (Nat.le_of_ble_eq_true rfl) rfl rfl (Nat.le_of_ble_eq_true rfl) (Nat.le_of_ble_eq_true rfl) (es := [.inl (h2_ 111 (wI (8 + (h2_ 111 a3_.toNat))).toNat), .inl x2]) rfl rfl).trans ?_
    refine congrArg (cI _) (funext fun a7_ => funext fun h6_ => ?_)
    refine (R_if_eq (t := 51) zf250_28 rfl rfl).trans ?_
    refine ite_congr rfl (fun c8_ => ?_) (fun c8_ => ?_)
    · refine (R_iinc (ls' := [.inr (.inr (.inl 97)), .inr (.inr (.inl 111)), .inl x0, .inl x1, .inl (wI (x2 + 1))]) zf250_51 rfl rfl rfl).trans ?_
      refine (R_goto (t := 5) zf250_54 rfl).trans ?_
      rfl
    · refine (R_iload_n zf250_31 rfl rfl).trans ?_
      refine (R_callI zf250_32 zo_250 zsl_12_355 (by rw [zr_76]; rfl) zl_76 (Nat.le_of_ble_eq_true rfl) rfl rfl (Nat.le_of_ble_eq_true rfl) (Nat.le_of_ble_eq_true rfl) (es := [.inl x1]) rfl rfl).trans ?_
      refine congrArg (cI _) (funext fun a10_ => funext fun h9_ => ?_)
      refine (R_aload_n zf250_35 rfl zlt_97 rfl).trans ?_
      refine (R_getR zf250_36 zo_250 zfl_12_37 zk1_97 zft_12_18 zmr_97_18 rfl).trans ?_
      refine (R_iconst zf250_39 zw_3 rfl).trans ?_
      refine (R_ialdc zf250_40 zk_102 (by decide) rfl rfl).trans ?_
      refine (R_icmp_ge (t := 51) zf250_41 rfl rfl).trans ?_
      refine ite_congr rfl (fun c11_ => ?_) (fun c11_ => ?_)
      · refine (R_iinc (ls' := [.inr (.inr (.inl 97)), .inr (.inr (.inl 111)), .inl x0, .inl x1, .inl (wI (x2 + 1))]) zf250_51 rfl rfl rfl).trans ?_
        refine (R_goto (t := 5) zf250_54 rfl).trans ?_
        rfl
      · refine (R_iload_n zf250_44 rfl rfl).trans ?_
        refine (R_iconst zf250_45 zw_1 rfl).trans ?_
        refine (R_iload zf250_46 rfl rfl).trans ?_
        refine (R_ishl zf250_48 rfl).trans ?_
        refine (R_ior zf250_49 rfl).trans ?_
        refine (R_istore_n (ls' := [.inr (.inr (.inl 97)), .inr (.inr (.inl 111)), .inl x0, .inl (iOr x1 (iShl 1 x2)), .inl x2]) zf250_50 (Nat.le_of_ble_eq_true rfl) rfl rfl).trans ?_
        refine (R_iinc (ls' := [.inr (.inr (.inl 97)), .inr (.inr (.inl 111)), .inl x0, .inl (iOr x1 (iShl 1 x2)), .inl (wI (x2 + 1))]) zf250_51 rfl rfl rfl).trans ?_
        refine (R_goto (t := 5) zf250_54 rfl).trans ?_
        rfl
-- CannonPostModel.comesTo([IIIII)I at 0
theorem q231_0_1 (d : Nat) (x0 : Int) (x1 : Int) (x2 : Int) (x3 : Int) (h : MH) : Run (d + 1) 231 0 [.inr (.inr (.inl 97)), .inr (.inr (.inl 111)), .inl x0, .inl x1, .inl x2, .inl x3] [] h = (cI (Run d 232 0 [.inr (.inr (.inl 97)), .inl x0, .inl x1, .inl x2, .inl x3, .inl (h 111 32), .inl (h 111 33), .inl (h 111 34), vU] [] h) fun a2_ h1_ => some (some (.inl a2_), h1_)) := by
  refine (R_aload_n zf231_0 rfl zlt_97 rfl).trans ?_
  refine (R_iload_n zf231_1 rfl rfl).trans ?_
  refine (R_iload_n zf231_2 rfl rfl).trans ?_
  refine (R_iload zf231_3 rfl rfl).trans ?_
  refine (R_iload zf231_5 rfl rfl).trans ?_
  refine (R_aload_n zf231_7 rfl zlt_111 rfl).trans ?_
  refine (R_bipush zf231_8 zb_32 rfl).trans ?_
  refine (R_ialdc zf231_10 zk_111 (by decide) rfl rfl).trans ?_
  refine (R_aload_n zf231_11 rfl zlt_111 rfl).trans ?_
  refine (R_bipush zf231_12 zb_33 rfl).trans ?_
  refine (R_ialdc zf231_14 zk_111 (by decide) rfl rfl).trans ?_
  refine (R_aload_n zf231_15 rfl zlt_111 rfl).trans ?_
  refine (R_bipush zf231_16 zb_34 rfl).trans ?_
  refine (R_ialdc zf231_18 zk_111 (by decide) rfl rfl).trans ?_
  refine (R_vcallI zf231_19 zo_231 zvl_12_329 (by rw [zr_232]; rfl) zl_232 (Nat.le_of_ble_eq_true rfl) rfl rfl (Nat.le_of_ble_eq_true rfl) (Nat.le_of_ble_eq_true rfl) (es := [.inr (.inr (.inl 97)), .inl x0, .inl x1, .inl x2, .inl x3, .inl (h 111 32), .inl (h 111 33), .inl (h 111 34), vU]) rfl rfl zk1_97 zo_232).trans ?_
  refine congrArg (cI _) (funext fun a2_ => funext fun h1_ => ?_)
  exact R_ireturn_i zf231_22 zr_231
-- CannonPostModel.shoots([IIIII)I at 96
theorem q230_96_1 (d : Nat) (x0 : Int) (x1 : Int) (z2 : MV) (hz2 : cat z2 = 1) (x3 : Int) (x4 : Int) (x5 : Int) (z6 : MV) (hz6 : cat z6 = 1) (h : MH) : Run (d + 1) 230 96 [.inr (.inr (.inl 97)), .inr (.inr (.inl 111)), .inl x0, .inl x1, z2, .inl x3, .inl x4, .inl x5, z6] [] h = (cI (Run d 217 0 [.inl x0] [] h) fun a2_ h1_ => (if 0 ≤ a2_ ∧ a2_ < 277 then (if 0 ≤ (wI (8 + x5)) ∧ (wI (8 + x5)) < 277 then (if 0 ≤ (wI (8 + x5)) ∧ (wI (8 + x5)) < 277 then (if ¬ ((up (up h1_ 111 a2_.toNat x5) 111 (wI (8 + x5)).toNat (iOr ((up h1_ 111 a2_.toNat x5) 111 (wI (8 + x5)).toNat) x3)) 111 36) = 60 then Run (d + 1) 230 166 [.inr (.inr (.inl 97)), .inr (.inr (.inl 111)), .inl x0, .inl x1, z2, .inl x3, .inl x4, .inl x5, z6] [] (up (up h1_ 111 a2_.toNat x5) 111 (wI (8 + x5)).toNat (iOr ((up h1_ 111 a2_.toNat x5) 111 (wI (8 + x5)).toNat) x3)) else Run (d + 1) 230 128 [.inr (.inr (.inl 97)), .inr (.inr (.inl 111)), .inl x0, .inl x1, z2, .inl x3, .inl x4, .inl x5, .inl 1] [] (up (up h1_ 111 a2_.toNat x5) 111 (wI (8 + x5)).toNat (iOr ((up h1_ 111 a2_.toNat x5) 111 (wI (8 + x5)).toNat) x3))) else none) else none) else none)) := by
  refine (R_aload_n zf230_96 rfl zlt_111 rfl).trans ?_
  refine (R_iload_n zf230_97 rfl rfl).trans ?_
  refine (R_callI zf230_98 zo_230 zsl_12_300 (by rw [zr_217]; rfl) zl_217 (Nat.le_of_ble_eq_true rfl) rfl rfl (Nat.le_of_ble_eq_true rfl) (Nat.le_of_ble_eq_true rfl) (es := [.inl x0]) rfl rfl).trans ?_
  refine congrArg (cI _) (funext fun a2_ => funext fun h1_ => ?_)
  refine (R_iload zf230_101 rfl rfl).trans ?_
  refine (R_iast zf230_103 zk_111 rfl).trans ?_
  refine ite_congr rfl (fun c3_ => ?_) (fun _ => rfl)
  refine (R_aload_n zf230_104 rfl zlt_111 rfl).trans ?_
  refine (R_bipush zf230_105 zb_8 rfl).trans ?_
  refine (R_iload zf230_107 rfl rfl).trans ?_
  refine (R_iadd zf230_109 rfl).trans ?_
  refine (R_dup2 zf230_110 rfl rfl rfl).trans ?_
  refine (R_iald zf230_111 zk_111 rfl).trans ?_
  refine ite_congr rfl (fun c4_ => ?_) (fun _ => rfl)
  refine (R_iload zf230_112 rfl rfl).trans ?_
  refine (R_ior zf230_114 rfl).trans ?_
  refine (R_iast zf230_115 zk_111 rfl).trans ?_
  refine ite_congr rfl (fun c5_ => ?_) (fun _ => rfl)
  refine (R_aload_n zf230_116 rfl zlt_111 rfl).trans ?_
  refine (R_bipush zf230_117 zb_36 rfl).trans ?_
  refine (R_ialdc zf230_119 zk_111 (by decide) rfl rfl).trans ?_
  refine (R_bipush zf230_120 zb_60 rfl).trans ?_
  refine (R_icmp_ne (t := 166) zf230_122 rfl rfl).trans ?_
  refine ite_congr rfl (fun c6_ => ?_) (fun c6_ => ?_)
  · rfl
  · refine (R_iconst zf230_125 zw_1 rfl).trans ?_
    refine (R_istore (ls' := [.inr (.inr (.inl 97)), .inr (.inr (.inl 111)), .inl x0, .inl x1, z2, .inl x3, .inl x4, .inl x5, .inl 1]) zf230_126 (Nat.le_of_ble_eq_true rfl) rfl rfl).trans ?_
    rfl
-- CannonPostModel.shoots([IIIII)I at 166
theorem q230_166_1 (d : Nat) (x0 : Int) (x1 : Int) (z2 : MV) (hz2 : cat z2 = 1) (z3 : MV) (hz3 : cat z3 = 1) (x4 : Int) (x5 : Int) (z6 : MV) (hz6 : cat z6 = 1) (h : MH) : Run (d + 1) 230 166 [.inr (.inr (.inl 97)), .inr (.inr (.inl 111)), .inl x0, .inl x1, z2, z3, .inl x4, .inl x5, z6] [] h = (if 0 ≤ (wI (37 + (wI (4 * (h 111 36))))) ∧ (wI (37 + (wI (4 * (h 111 36))))) < 277 then (if 0 ≤ (wI ((wI (37 + (wI (4 * (h 111 36))))) + 1)) ∧ (wI ((wI (37 + (wI (4 * (h 111 36))))) + 1)) < 277 then (if 0 ≤ (wI ((wI (37 + (wI (4 * (h 111 36))))) + 2)) ∧ (wI ((wI (37 + (wI (4 * (h 111 36))))) + 2)) < 277 then (if 0 ≤ (wI ((wI (37 + (wI (4 * (h 111 36))))) + 3)) ∧ (wI ((wI (37 + (wI (4 * (h 111 36))))) + 3)) < 277 then some (some (.inl x5), (up (up (up (up (up h 111 (wI (37 + (wI (4 * (h 111 36))))).toNat x0) 111 (wI ((wI (37 + (wI (4 * (h 111 36))))) + 1)).toNat x4) 111 (wI ((wI (37 + (wI (4 * (h 111 36))))) + 2)).toNat x5) 111 (wI ((wI (37 + (wI (4 * (h 111 36))))) + 3)).toNat x1) 111 36 (wI (((up (up (up (up h 111 (wI (37 + (wI (4 * (h 111 36))))).toNat x0) 111 (wI ((wI (37 + (wI (4 * (h 111 36))))) + 1)).toNat x4) 111 (wI ((wI (37 + (wI (4 * (h 111 36))))) + 2)).toNat x5) 111 (wI ((wI (37 + (wI (4 * (h 111 36))))) + 3)).toNat x1) 111 36) + 1)))) else none) else none) else none) else none) := by
  refine (R_bipush zf230_166 zb_37 rfl).trans ?_
  refine (R_iconst zf230_168 zw_4 rfl).trans ?_
  refine (R_aload_n zf230_169 rfl zlt_111 rfl).trans ?_
  refine (R_bipush zf230_170 zb_36 rfl).trans ?_
  refine (R_ialdc zf230_172 zk_111 (by decide) rfl rfl).trans ?_
  refine (R_imul zf230_173 rfl).trans ?_
  refine (R_iadd zf230_174 rfl).trans ?_
  refine (R_istore (ls' := [.inr (.inr (.inl 97)), .inr (.inr (.inl 111)), .inl x0, .inl x1, z2, z3, .inl x4, .inl x5, .inl (wI (37 + (wI (4 * (h 111 36)))))]) zf230_175 (Nat.le_of_ble_eq_true rfl) rfl rfl).trans ?_
  refine (R_aload_n zf230_177 rfl zlt_111 rfl).trans ?_
  refine (R_iload zf230_178 rfl rfl).trans ?_
  refine (R_iload_n zf230_180 rfl rfl).trans ?_
  refine (R_iast zf230_181 zk_111 rfl).trans ?_
  refine ite_congr rfl (fun c1_ => ?_) (fun _ => rfl)
  refine (R_aload_n zf230_182 rfl zlt_111 rfl).trans ?_
  refine (R_iload zf230_183 rfl rfl).trans ?_
  refine (R_iconst zf230_185 zw_1 rfl).trans ?_
  refine (R_iadd zf230_186 rfl).trans ?_
  refine (R_iload zf230_187 rfl rfl).trans ?_
  refine (R_iast zf230_189 zk_111 rfl).trans ?_
  refine ite_congr rfl (fun c2_ => ?_) (fun _ => rfl)
  refine (R_aload_n zf230_190 rfl zlt_111 rfl).trans ?_
  refine (R_iload zf230_191 rfl rfl).trans ?_
  refine (R_iconst zf230_193 zw_2 rfl).trans ?_
  refine (R_iadd zf230_194 rfl).trans ?_
  refine (R_iload zf230_195 rfl rfl).trans ?_
  refine (R_iast zf230_197 zk_111 rfl).trans ?_
  refine ite_congr rfl (fun c3_ => ?_) (fun _ => rfl)
  refine (R_aload_n zf230_198 rfl zlt_111 rfl).trans ?_
  refine (R_iload zf230_199 rfl rfl).trans ?_
  refine (R_iconst zf230_201 zw_3 rfl).trans ?_
  refine (R_iadd zf230_202 rfl).trans ?_
  refine (R_iload_n zf230_203 rfl rfl).trans ?_
  refine (R_iast zf230_204 zk_111 rfl).trans ?_
  refine ite_congr rfl (fun c4_ => ?_) (fun _ => rfl)
  refine (R_aload_n zf230_205 rfl zlt_111 rfl).trans ?_
  refine (R_bipush zf230_206 zb_36 rfl).trans ?_
  refine (R_dup2 zf230_208 rfl rfl rfl).trans ?_
  refine (R_ialdc zf230_209 zk_111 (by decide) rfl rfl).trans ?_
  refine (R_iconst zf230_210 zw_1 rfl).trans ?_
  refine (R_iadd zf230_211 rfl).trans ?_
  refine (R_iastc zf230_212 zk_111 (by decide) rfl rfl).trans ?_
  refine (R_iload zf230_213 rfl rfl).trans ?_
  exact R_ireturn_i zf230_215 zr_230
-- CannonPostModel.shoots([IIIII)I at 128
theorem q230_128_1 (d : Nat) (x0 : Int) (x1 : Int) (z2 : MV) (hz2 : cat z2 = 1) (z3 : MV) (hz3 : cat z3 = 1) (x4 : Int) (x5 : Int) (x6 : Int) (h : MH) : Run (d + 1) 230 128 [.inr (.inr (.inl 97)), .inr (.inr (.inl 111)), .inl x0, .inl x1, z2, z3, .inl x4, .inl x5, .inl x6] [] h = (if 236 < x6 then Run (d + 1) 230 166 [.inr (.inr (.inl 97)), .inr (.inr (.inl 111)), .inl x0, .inl x1, z2, z3, .inl x4, .inl x5, .inl x6] [] (up h 111 36 (wI ((h 111 36) - 1))) else (if 0 ≤ (wI ((wI (36 + x6)) + 4)) ∧ (wI ((wI (36 + x6)) + 4)) < 277 then (if 0 ≤ (wI (36 + x6)) ∧ (wI (36 + x6)) < 277 then Run (d + 1) 230 128 [.inr (.inr (.inl 97)), .inr (.inr (.inl 111)), .inl x0, .inl x1, z2, z3, .inl x4, .inl x5, .inl (wI (x6 + 1))] [] (up h 111 (wI (36 + x6)).toNat (h 111 (wI ((wI (36 + x6)) + 4)).toNat)) else none) else none)) := by
  refine (R_iload zf230_128 rfl rfl).trans ?_
  refine (R_sipush zf230_130 zs_236 rfl).trans ?_
  refine (R_icmp_gt (t := 158) zf230_133 rfl rfl).trans ?_
  refine ite_congr rfl (fun c1_ => ?_) (fun c1_ => ?_)
  · refine (R_aload_n zf230_158 rfl zlt_111 rfl).trans ?_
    refine (R_bipush zf230_159 zb_36 rfl).trans ?_
    refine (R_dup2 zf230_161 rfl rfl rfl).trans ?_
    refine (R_ialdc zf230_162 zk_111 (by decide) rfl rfl).trans ?_
    refine (R_iconst zf230_163 zw_1 rfl).trans ?_
    refine (R_isub zf230_164 rfl).trans ?_
    refine (R_iastc zf230_165 zk_111 (by decide) rfl rfl).trans ?_
    rfl
  · refine (R_aload_n zf230_136 rfl zlt_111 rfl).trans ?_
    refine (R_bipush zf230_137 zb_36 rfl).trans ?_
    refine (R_iload zf230_139 rfl rfl).trans ?_
    refine (R_iadd zf230_141 rfl).trans ?_
    refine (R_aload_n zf230_142 rfl zlt_111 rfl).trans ?_
    refine (R_bipush zf230_143 zb_36 rfl).trans ?_
    refine (R_iload zf230_145 rfl rfl).trans ?_
    refine (R_iadd zf230_147 rfl).trans ?_
    refine (R_iconst zf230_148 zw_4 rfl).trans ?_
    refine (R_iadd zf230_149 rfl).trans ?_
    refine (R_iald zf230_150 zk_111 rfl).trans ?_
    refine ite_congr rfl (fun c2_ => ?_) (fun _ => rfl)
    refine (R_iast zf230_151 zk_111 rfl).trans ?_
    refine ite_congr rfl (fun c3_ => ?_) (fun _ => rfl)
    refine (R_iinc (ls' := [.inr (.inr (.inl 97)), .inr (.inr (.inl 111)), .inl x0, .inl x1, z2, z3, .inl x4, .inl x5, .inl (wI (x6 + 1))]) zf230_152 rfl rfl rfl).trans ?_
    refine (R_goto (t := 128) zf230_155 rfl).trans ?_
    rfl
-- CannonPostModel.starts([BII)V at 0
theorem q185_0_1 (d : Nat) (x0 : Int) (x1 : Int) (h : MH) : Run d 185 0 [.inr (.inr (.inl 97)), .inr (.inr (.inl 99)), .inl x0, .inl x1] [] h = some (none, (up (up (up (up (up h 97 5 99) 97 8 x0) 97 9 x1) 97 10 0) 97 11 (-1))) := by
  refine (R_aload_n zf185_0 rfl zlt_97 rfl).trans ?_
  refine (R_aload_n zf185_1 rfl zlt_99 rfl).trans ?_
  refine (R_putR zf185_2 zo_185 zfl_12_23 zk1_97 zft_12_5 zk1_99 rfl).trans ?_
  refine (R_aload_n zf185_5 rfl zlt_97 rfl).trans ?_
  refine (R_iload_n zf185_6 rfl rfl).trans ?_
  refine (R_putI zf185_7 zo_185 zfl_12_125 zk1_97 zft_12_8 rfl).trans ?_
  refine (R_aload_n zf185_10 rfl zlt_97 rfl).trans ?_
  refine (R_iload_n zf185_11 rfl rfl).trans ?_
  refine (R_putI zf185_12 zo_185 zfl_12_122 zk1_97 zft_12_9 rfl).trans ?_
  refine (R_aload_n zf185_15 rfl zlt_97 rfl).trans ?_
  refine (R_iconst zf185_16 zw_0 rfl).trans ?_
  refine (R_putI zf185_17 zo_185 zfl_12_119 zk1_97 zft_12_10 rfl).trans ?_
  refine (R_aload_n zf185_20 rfl zlt_97 rfl).trans ?_
  refine (R_iconst zf185_21 zw_m1 rfl).trans ?_
  refine (R_putI zf185_22 zo_185 zfl_12_128 zk1_97 zft_12_11 rfl).trans ?_
  exact R_return zf185_25 zr_185
-- CannonPostModel.goThrough([BII)V at 32
theorem q199_32_1 (d : Nat) (z0 : MV) (hz0 : cat z0 = 1) (z1 : MV) (hz1 : cat z1 = 1) (h : MH) : Run (d + 1) 199 32 [.inr (.inr (.inl 97)), .inr (.inr (.inl 99)), z0, z1] [] h = (if ¬ (h 97 11) = (-1) then (if ¬ (h 97 11) = (-1) then some (none, h) else (cI (Run d 188 0 [.inr (.inr (.inl 97))] [] h) fun a4_ h3_ => (if a4_ = (-1) then some (none, h3_) else (cI (Run d 189 0 [.inr (.inr (.inl 97))] [] h3_) fun a7_ h6_ => some (none, h6_))))) else (cI (Run d 188 0 [.inr (.inr (.inl 97))] [] h) fun a9_ h8_ => (if ¬ a9_ = 59 then (if ¬ (h8_ 97 11) = (-1) then some (none, h8_) else (cI (Run d 188 0 [.inr (.inr (.inl 97))] [] h8_) fun a13_ h12_ => (if a13_ = (-1) then some (none, h12_) else (cI (Run d 189 0 [.inr (.inr (.inl 97))] [] h12_) fun a16_ h15_ => some (none, h15_))))) else (cV (Run d 200 0 [.inr (.inr (.inl 97)), vU, vU, vU, vU] [] (up h8_ 97 10 (wI ((h8_ 97 10) + 1)))) fun h17_ => Run (d + 1) 199 32 [.inr (.inr (.inl 97)), .inr (.inr (.inl 99)), z0, z1] [] h17_)))) := by
  refine (R_aload_n zf199_32 rfl zlt_97 rfl).trans ?_
  refine (R_getI zf199_33 zo_199 zfl_12_128 zk1_97 zft_12_11 rfl).trans ?_
  refine (R_iconst zf199_36 zw_m1 rfl).trans ?_
  refine (R_icmp_ne (t := 66) zf199_37 rfl rfl).trans ?_
  refine ite_congr rfl (fun c1_ => ?_) (fun c1_ => ?_)
  · refine (R_aload_n zf199_66 rfl zlt_97 rfl).trans ?_
    refine (R_getI zf199_67 zo_199 zfl_12_128 zk1_97 zft_12_11 rfl).trans ?_
    refine (R_iconst zf199_70 zw_m1 rfl).trans ?_
    refine (R_icmp_ne (t := 87) zf199_71 rfl rfl).trans ?_
    refine ite_congr rfl (fun c2_ => ?_) (fun c2_ => ?_)
    · exact R_return zf199_87 zr_199
    · refine (R_aload_n zf199_74 rfl zlt_97 rfl).trans ?_
      refine (R_vcallI zf199_75 zo_199 zvl_12_138 (by rw [zr_188]; rfl) zl_188 (Nat.le_of_ble_eq_true rfl) rfl rfl (Nat.le_of_ble_eq_true rfl) (Nat.le_of_ble_eq_true rfl) (es := [.inr (.inr (.inl 97))]) rfl rfl zk1_97 zo_188).trans ?_
      refine congrArg (cI _) (funext fun a4_ => funext fun h3_ => ?_)
      refine (R_iconst zf199_78 zw_m1 rfl).trans ?_
      refine (R_icmp_eq (t := 87) zf199_79 rfl rfl).trans ?_
      refine ite_congr rfl (fun c5_ => ?_) (fun c5_ => ?_)
      · exact R_return zf199_87 zr_199
      · refine (R_aload_n zf199_82 rfl zlt_97 rfl).trans ?_
        refine (R_vcallI zf199_83 zo_199 zvl_12_134 (by rw [zr_189]; rfl) zl_189 (Nat.le_of_ble_eq_true rfl) rfl rfl (Nat.le_of_ble_eq_true rfl) (Nat.le_of_ble_eq_true rfl) (es := [.inr (.inr (.inl 97))]) rfl rfl zk1_97 zo_189).trans ?_
        refine congrArg (cI _) (funext fun a7_ => funext fun h6_ => ?_)
        refine (R_pop zf199_86 rfl rfl).trans ?_
        exact R_return zf199_87 zr_199
  · refine (R_aload_n zf199_40 rfl zlt_97 rfl).trans ?_
    refine (R_vcallI zf199_41 zo_199 zvl_12_138 (by rw [zr_188]; rfl) zl_188 (Nat.le_of_ble_eq_true rfl) rfl rfl (Nat.le_of_ble_eq_true rfl) (Nat.le_of_ble_eq_true rfl) (es := [.inr (.inr (.inl 97))]) rfl rfl zk1_97 zo_188).trans ?_
    refine congrArg (cI _) (funext fun a9_ => funext fun h8_ => ?_)
    refine (R_bipush zf199_44 zb_59 rfl).trans ?_
    refine (R_icmp_ne (t := 66) zf199_46 rfl rfl).trans ?_
    refine ite_congr rfl (fun c10_ => ?_) (fun c10_ => ?_)
    · refine (R_aload_n zf199_66 rfl zlt_97 rfl).trans ?_
      refine (R_getI zf199_67 zo_199 zfl_12_128 zk1_97 zft_12_11 rfl).trans ?_
      refine (R_iconst zf199_70 zw_m1 rfl).trans ?_
      refine (R_icmp_ne (t := 87) zf199_71 rfl rfl).trans ?_
      refine ite_congr rfl (fun c11_ => ?_) (fun c11_ => ?_)
      · exact R_return zf199_87 zr_199
      · refine (R_aload_n zf199_74 rfl zlt_97 rfl).trans ?_
        refine (R_vcallI zf199_75 zo_199 zvl_12_138 (by rw [zr_188]; rfl) zl_188 (Nat.le_of_ble_eq_true rfl) rfl rfl (Nat.le_of_ble_eq_true rfl) (Nat.le_of_ble_eq_true rfl) (es := [.inr (.inr (.inl 97))]) rfl rfl zk1_97 zo_188).trans ?_
        refine congrArg (cI _) (funext fun a13_ => funext fun h12_ => ?_)
        refine (R_iconst zf199_78 zw_m1 rfl).trans ?_
        refine (R_icmp_eq (t := 87) zf199_79 rfl rfl).trans ?_
        refine ite_congr rfl (fun c14_ => ?_) (fun c14_ => ?_)
        · exact R_return zf199_87 zr_199
        · refine (R_aload_n zf199_82 rfl zlt_97 rfl).trans ?_
          refine (R_vcallI zf199_83 zo_199 zvl_12_134 (by rw [zr_189]; rfl) zl_189 (Nat.le_of_ble_eq_true rfl) rfl rfl (Nat.le_of_ble_eq_true rfl) (Nat.le_of_ble_eq_true rfl) (es := [.inr (.inr (.inl 97))]) rfl rfl zk1_97 zo_189).trans ?_
          refine congrArg (cI _) (funext fun a16_ => funext fun h15_ => ?_)
          refine (R_pop zf199_86 rfl rfl).trans ?_
          exact R_return zf199_87 zr_199
    · refine (R_aload_n zf199_49 rfl zlt_97 rfl).trans ?_
      refine (R_dup zf199_50 rfl rfl).trans ?_
      refine (R_getI zf199_51 zo_199 zfl_12_119 zk1_97 zft_12_10 rfl).trans ?_
      refine (R_iconst zf199_54 zw_1 rfl).trans ?_
      refine (R_iadd zf199_55 rfl).trans ?_
      refine (R_putI zf199_56 zo_199 zfl_12_119 zk1_97 zft_12_10 rfl).trans ?_
      refine (R_aload_n zf199_59 rfl zlt_97 rfl).trans ?_
      refine (R_vcallV zf199_60 zo_199 zvl_12_211 zr_200 zl_200 (Nat.le_of_ble_eq_true rfl) rfl rfl (Nat.le_of_ble_eq_true rfl) (Nat.le_of_ble_eq_true rfl) (es := [.inr (.inr (.inl 97)), vU, vU, vU, vU]) rfl rfl zk1_97 zo_200).trans ?_
      refine congrArg (cV _) (funext fun h17_ => ?_)
      refine (R_goto (t := 32) zf199_63 rfl).trans ?_
      rfl
-- CannonPostModel.layAims(I)V at 46
theorem q264_46 (d : Nat) (x0 : Int) (x1 : Int) (x2 : Int) (x3 : Int) (z4 : MV) (hz4 : cat z4 = 1) (h : MH) : Run (d + 1) 264 46 [.inr (.inr (.inl 97)), .inl x0, .inl x1, .inl x2, .inl x3, z4] [] h = (if 2 ≤ x3 then Run (d + 1) 264 39 [.inr (.inr (.inl 97)), .inl x0, .inl x1, .inl (wI (x2 + (-1))), .inl x3, z4] [] h else (cI (Run d 231 0 [.inr (.inr (.inl 97)), .inr (.inr (.inl 110)), .inl x0, .inl x1, .inl x2, .inl x3] [] h) fun a3_ h2_ => (cI (Run d 235 0 [.inr (.inr (.inl 97)), .inl a3_, vU] [] h2_) fun a5_ h4_ => (if a5_ = (-1) then Run (d + 1) 264 46 [.inr (.inr (.inl 97)), .inl x0, .inl x1, .inl x2, .inl (wI (x3 + 1)), .inl a5_] [] h4_ else (if a5_ = x1 then Run (d + 1) 264 46 [.inr (.inr (.inl 97)), .inl x0, .inl x1, .inl x2, .inl (wI (x3 + 1)), .inl a5_] [] h4_ else (cI (Run d 234 0 [.inr (.inr (.inl 97)), .inl a5_] [] h4_) fun a9_ h8_ => (cI (Run d 234 0 [.inr (.inr (.inl 97)), .inl x1] [] h8_) fun a11_ h10_ => (if a9_ ≤ a11_ then (if ¬ x3 = 0 then Run (d + 1) 264 112 [.inr (.inr (.inl 97)), .inl x0, .inl x1, .inl x2, .inl x3, .inl a5_] [.inl 0, .inl 0] h10_ else Run (d + 1) 264 112 [.inr (.inr (.inl 97)), .inl x0, .inl x1, .inl x2, .inl x3, .inl a5_] [.inl 1, .inl 0] h10_) else (if ¬ x3 = 0 then Run (d + 1) 264 112 [.inr (.inr (.inl 97)), .inl x0, .inl x1, .inl x2, .inl x3, .inl a5_] [.inl 0, .inl 1] h10_ else Run (d + 1) 264 112 [.inr (.inr (.inl 97)), .inl x0, .inl x1, .inl x2, .inl x3, .inl a5_] [.inl 1, .inl 1] h10_))))))))) := by
  refine (R_iload zf264_46 rfl rfl).trans ?_
  refine (R_iconst zf264_48 zw_2 rfl).trans ?_
  refine (R_icmp_ge (t := 139) zf264_49 rfl rfl).trans ?_
  refine ite_congr rfl (fun c1_ => ?_) (fun c1_ => ?_)
  · refine (R_iinc (ls' := [.inr (.inr (.inl 97)), .inl x0, .inl x1, .inl (wI (x2 + (-1))), .inl x3, z4]) zf264_139 rfl rfl rfl).trans ?_
    refine (R_goto (t := 39) zf264_142 rfl).trans ?_
    rfl
  · refine (R_aload_n zf264_52 rfl zlt_97 rfl).trans ?_
    refine (R_aload_n zf264_53 rfl zlt_97 rfl).trans ?_
    refine (R_aload_n zf264_54 rfl zlt_97 rfl).trans ?_
    refine (R_getR zf264_55 zo_264 zfl_12_61 zk1_97 zft_12_32 zmr_97_32 rfl).trans ?_
    refine (R_iload_n zf264_58 rfl rfl).trans ?_
    refine (R_iload_n zf264_59 rfl rfl).trans ?_
    refine (R_iload_n zf264_60 rfl rfl).trans ?_
    refine (R_iload zf264_61 rfl rfl).trans ?_
    refine (R_vcallI zf264_63 zo_264 zvl_12_348 (by rw [zr_231]; rfl) zl_231 (Nat.le_of_ble_eq_true rfl) rfl rfl (Nat.le_of_ble_eq_true rfl) (Nat.le_of_ble_eq_true rfl) (es := [.inr (.inr (.inl 97)), .inr (.inr (.inl 110)), .inl x0, .inl x1, .inl x2, .inl x3]) rfl rfl zk1_97 zo_231).trans ?_
    refine congrArg (cI _) (funext fun a3_ => funext fun h2_ => ?_)
    refine (R_vcallI zf264_66 zo_264 zvl_12_352 (by rw [zr_235]; rfl) zl_235 (Nat.le_of_ble_eq_true rfl) rfl rfl (Nat.le_of_ble_eq_true rfl) (Nat.le_of_ble_eq_true rfl) (es := [.inr (.inr (.inl 97)), .inl a3_, vU]) rfl rfl zk1_97 zo_235).trans ?_
    refine congrArg (cI _) (funext fun a5_ => funext fun h4_ => ?_)
    refine (R_istore (ls' := [.inr (.inr (.inl 97)), .inl x0, .inl x1, .inl x2, .inl x3, .inl a5_]) zf264_69 (Nat.le_of_ble_eq_true rfl) rfl rfl).trans ?_
    refine (R_iload zf264_71 rfl rfl).trans ?_
    refine (R_iconst zf264_73 zw_m1 rfl).trans ?_
    refine (R_icmp_eq (t := 133) zf264_74 rfl rfl).trans ?_
    refine ite_congr rfl (fun c6_ => ?_) (fun c6_ => ?_)
    · refine (R_iinc (ls' := [.inr (.inr (.inl 97)), .inl x0, .inl x1, .inl x2, .inl (wI (x3 + 1)), .inl a5_]) zf264_133 rfl rfl rfl).trans ?_
      refine (R_goto (t := 46) zf264_136 rfl).trans ?_
      rfl
    · refine (R_iload zf264_77 rfl rfl).trans ?_
      refine (R_iload_n zf264_79 rfl rfl).trans ?_
      refine (R_icmp_eq (t := 133) zf264_80 rfl rfl).trans ?_
      refine ite_congr rfl (fun c7_ => ?_) (fun c7_ => ?_)
      · refine (R_iinc (ls' := [.inr (.inr (.inl 97)), .inl x0, .inl x1, .inl x2, .inl (wI (x3 + 1)), .inl a5_]) zf264_133 rfl rfl rfl).trans ?_
        refine (R_goto (t := 46) zf264_136 rfl).trans ?_
        rfl
      · refine (R_aload_n zf264_83 rfl zlt_97 rfl).trans ?_
        refine (R_iload zf264_84 rfl rfl).trans ?_
        refine (R_vcallI zf264_86 zo_264 zvl_12_326 (by rw [zr_234]; rfl) zl_234 (Nat.le_of_ble_eq_true rfl) rfl rfl (Nat.le_of_ble_eq_true rfl) (Nat.le_of_ble_eq_true rfl) (es := [.inr (.inr (.inl 97)), .inl a5_]) rfl rfl zk1_97 zo_234).trans ?_
        refine congrArg (cI _) (funext fun a9_ => funext fun h8_ => ?_)
        refine (R_aload_n zf264_89 rfl zlt_97 rfl).trans ?_
        refine (R_iload_n zf264_90 rfl rfl).trans ?_
        refine (R_vcallI zf264_91 zo_264 zvl_12_326 (by rw [zr_234]; rfl) zl_234 (Nat.le_of_ble_eq_true rfl) rfl rfl (Nat.le_of_ble_eq_true rfl) (Nat.le_of_ble_eq_true rfl) (es := [.inr (.inr (.inl 97)), .inl x1]) rfl rfl zk1_97 zo_234).trans ?_
        refine congrArg (cI _) (funext fun a11_ => funext fun h10_ => ?_)
        refine (R_icmp_le (t := 101) zf264_94 rfl rfl).trans ?_
        refine ite_congr rfl (fun c12_ => ?_) (fun c12_ => ?_)
        · refine (R_iconst zf264_101 zw_0 rfl).trans ?_
          refine (R_iload zf264_102 rfl rfl).trans ?_
          refine (R_if_ne (t := 111) zf264_104 rfl rfl).trans ?_
          refine ite_congr rfl (fun c13_ => ?_) (fun c13_ => ?_)
          · refine (R_iconst zf264_111 zw_0 rfl).trans ?_
            rfl
          · refine (R_iconst zf264_107 zw_1 rfl).trans ?_
            refine (R_goto (t := 112) zf264_108 rfl).trans ?_
            rfl
        · refine (R_iconst zf264_97 zw_1 rfl).trans ?_
          refine (R_goto (t := 102) zf264_98 rfl).trans ?_
          refine (R_iload zf264_102 rfl rfl).trans ?_
          refine (R_if_ne (t := 111) zf264_104 rfl rfl).trans ?_
          refine ite_congr rfl (fun c14_ => ?_) (fun c14_ => ?_)
          · refine (R_iconst zf264_111 zw_0 rfl).trans ?_
            rfl
          · refine (R_iconst zf264_107 zw_1 rfl).trans ?_
            refine (R_goto (t := 112) zf264_108 rfl).trans ?_
            rfl
-- CannonPostModel.canKnow(III)Z at 0
theorem q276_0 (d : Nat) (x0 : Int) (x1 : Int) (x2 : Int) (h : MH) : Run (d + 1) 276 0 [.inr (.inr (.inl 97)), .inl x0, .inl x1, .inl x2, vU, vU] [] h = (cI (Run d 192 0 [.inl x0, .inl x1] [] h) fun a2_ h1_ => (if a2_ = 0 then (if ¬ x2 = 0 then Run (d + 1) 276 19 [.inr (.inr (.inl 97)), .inl x0, .inl x1, .inl x2, .inl 0, vU] [] h1_ else some (some (.inl 0), h1_)) else some (some (.inl 1), h1_))) := by
  refine (R_iload_n zf276_0 rfl rfl).trans ?_
  refine (R_iload_n zf276_1 rfl rfl).trans ?_
  refine (R_callI zf276_2 zo_276 zsl_12_229 (by rw [zr_192]; rfl) zl_192 (Nat.le_of_ble_eq_true rfl) rfl rfl (Nat.le_of_ble_eq_true rfl) (Nat.le_of_ble_eq_true rfl) (es := [.inl x0, .inl x1]) rfl rfl).trans ?_
  refine congrArg (cI _) (funext fun a2_ => funext fun h1_ => ?_)
  refine (R_if_eq (t := 10) zf276_5 rfl rfl).trans ?_
  refine ite_congr rfl (fun c3_ => ?_) (fun c3_ => ?_)
  · refine (R_iload_n zf276_10 rfl rfl).trans ?_
    refine (R_if_ne (t := 16) zf276_11 rfl rfl).trans ?_
    refine ite_congr rfl (fun c4_ => ?_) (fun c4_ => ?_)
    · refine (R_iconst zf276_16 zw_0 rfl).trans ?_
      refine (R_istore (ls' := [.inr (.inr (.inl 97)), .inl x0, .inl x1, .inl x2, .inl 0, vU]) zf276_17 (Nat.le_of_ble_eq_true rfl) rfl rfl).trans ?_
      rfl
    · refine (R_iconst zf276_14 zw_0 rfl).trans ?_
      exact R_ireturn zf276_15 (by rw [zr_276]; rfl)
  · refine (R_iconst zf276_8 zw_1 rfl).trans ?_
    exact R_ireturn zf276_9 (by rw [zr_276]; rfl)
-- CannonPostModel.ask(II)I at 125
theorem q280_125 (d : Nat) (x0 : Int) (x1 : Int) (x2 : Int) (x3 : Int) (x4 : Int) (x5 : Int) (x6 : Int) (x7 : Int) (x8 : Int) (z9 : MV) (hz9 : cat z9 = 1) (h : MH) : Run (d + 1) 280 125 [.inr (.inr (.inl 97)), .inl x0, .inl x1, .inl x2, .inl x3, .inl x4, .inl x5, .inl x6, .inl x7, .inl x8, z9] [] h = (if 20 ≤ x8 then (if x3 = (-1) then Run (d + 1) 280 85 [.inr (.inr (.inl 97)), .inl x0, .inl x1, .inl x2, .inl (wI ((wI (100 * x5)) + x6)), .inl x7, .inl x5, .inl (wI (x6 + 1)), .inl x7, .inl x8, z9] [] h else (if x7 < x4 then Run (d + 1) 280 85 [.inr (.inr (.inl 97)), .inl x0, .inl x1, .inl x2, .inl (wI ((wI (100 * x5)) + x6)), .inl x7, .inl x5, .inl (wI (x6 + 1)), .inl x7, .inl x8, z9] [] h else Run (d + 1) 280 85 [.inr (.inr (.inl 97)), .inl x0, .inl x1, .inl x2, .inl x3, .inl x4, .inl x5, .inl (wI (x6 + 1)), .inl x7, .inl x8, z9] [] h)) else (cI (Run d 192 0 [.inl x2, .inl x8] [] h) fun a5_ h4_ => (if ¬ a5_ = 0 then (cI (Run d 232 0 [.inr (.inr (.inl 97)), .inl x0, .inl x1, .inl x6, .inl x5, .inl (x8.tmod 10), .inl (wI (x8.tdiv 10)), .inl 0, vU] [] h4_) fun a8_ h7_ => (cI (Run d 234 0 [.inr (.inr (.inl 97)), .inl x1] [] h7_) fun a10_ h9_ => (if 0 ≤ (ab (wI (a8_ - a10_))) ∧ (ab (wI (a8_ - a10_))) < 128 then (if 0 ≤ (ab (wI (a8_ - a10_))) ∧ (ab (wI (a8_ - a10_))) < 128 then (if 0 ≤ (ab (wI (a8_ - a10_))) ∧ (ab (wI (a8_ - a10_))) < 128 then Run (d + 1) 280 125 [.inr (.inr (.inl 97)), .inl x0, .inl x1, .inl x2, .inl x3, .inl x4, .inl x5, .inl x6, .inl (mx x7 ((up h9_ 116 (ab (wI (a8_ - a10_))).toNat (wI ((h9_ 116 (ab (wI (a8_ - a10_))).toNat) + 1))) 116 (ab (wI (a8_ - a10_))).toNat)), .inl (wI (x8 + 1)), .inl (ab (wI (a8_ - a10_)))] [] (up h9_ 116 (ab (wI (a8_ - a10_))).toNat (wI ((h9_ 116 (ab (wI (a8_ - a10_))).toNat) + 1))) else none) else none) else none))) else Run (d + 1) 280 125 [.inr (.inr (.inl 97)), .inl x0, .inl x1, .inl x2, .inl x3, .inl x4, .inl x5, .inl x6, .inl x7, .inl (wI (x8 + 1)), z9] [] h4_))) := by
  refine (R_iload zf280_125 rfl rfl).trans ?_
  refine (R_bipush zf280_127 zb_20 rfl).trans ?_
  refine (R_icmp_ge (t := 207) zf280_129 rfl rfl).trans ?_
  refine ite_congr rfl (fun c1_ => ?_) (fun c1_ => ?_)
  · refine (R_iload zf280_207 rfl rfl).trans ?_
    refine (R_iconst zf280_209 zw_m1 rfl).trans ?_
    refine (R_icmp_eq (t := 223) zf280_210 rfl rfl).trans ?_
    refine ite_congr rfl (fun c2_ => ?_) (fun c2_ => ?_)
    · refine (R_bipush zf280_223 zb_100 rfl).trans ?_
      refine (R_iload zf280_225 rfl rfl).trans ?_
      refine (R_imul zf280_227 rfl).trans ?_
      refine (R_iload zf280_228 rfl rfl).trans ?_
      refine (R_iadd zf280_230 rfl).trans ?_
      refine (R_istore (ls' := [.inr (.inr (.inl 97)), .inl x0, .inl x1, .inl x2, .inl (wI ((wI (100 * x5)) + x6)), .inl x4, .inl x5, .inl x6, .inl x7, .inl x8, z9]) zf280_231 (Nat.le_of_ble_eq_true rfl) rfl rfl).trans ?_
      refine (R_iload zf280_233 rfl rfl).trans ?_
      refine (R_istore (ls' := [.inr (.inr (.inl 97)), .inl x0, .inl x1, .inl x2, .inl (wI ((wI (100 * x5)) + x6)), .inl x7, .inl x5, .inl x6, .inl x7, .inl x8, z9]) zf280_235 (Nat.le_of_ble_eq_true rfl) rfl rfl).trans ?_
      refine (R_iinc (ls' := [.inr (.inr (.inl 97)), .inl x0, .inl x1, .inl x2, .inl (wI ((wI (100 * x5)) + x6)), .inl x7, .inl x5, .inl (wI (x6 + 1)), .inl x7, .inl x8, z9]) zf280_237 rfl rfl rfl).trans ?_
      refine (R_goto (t := 85) zf280_240 rfl).trans ?_
      rfl
    · refine (R_iload zf280_213 rfl rfl).trans ?_
      refine (R_iload zf280_215 rfl rfl).trans ?_
      refine (R_icmp_lt (t := 223) zf280_217 rfl rfl).trans ?_
      refine ite_congr rfl (fun c3_ => ?_) (fun c3_ => ?_)
      · refine (R_bipush zf280_223 zb_100 rfl).trans ?_
        refine (R_iload zf280_225 rfl rfl).trans ?_
        refine (R_imul zf280_227 rfl).trans ?_
        refine (R_iload zf280_228 rfl rfl).trans ?_
        refine (R_iadd zf280_230 rfl).trans ?_
        refine (R_istore (ls' := [.inr (.inr (.inl 97)), .inl x0, .inl x1, .inl x2, .inl (wI ((wI (100 * x5)) + x6)), .inl x4, .inl x5, .inl x6, .inl x7, .inl x8, z9]) zf280_231 (Nat.le_of_ble_eq_true rfl) rfl rfl).trans ?_
        refine (R_iload zf280_233 rfl rfl).trans ?_
        refine (R_istore (ls' := [.inr (.inr (.inl 97)), .inl x0, .inl x1, .inl x2, .inl (wI ((wI (100 * x5)) + x6)), .inl x7, .inl x5, .inl x6, .inl x7, .inl x8, z9]) zf280_235 (Nat.le_of_ble_eq_true rfl) rfl rfl).trans ?_
        refine (R_iinc (ls' := [.inr (.inr (.inl 97)), .inl x0, .inl x1, .inl x2, .inl (wI ((wI (100 * x5)) + x6)), .inl x7, .inl x5, .inl (wI (x6 + 1)), .inl x7, .inl x8, z9]) zf280_237 rfl rfl rfl).trans ?_
        refine (R_goto (t := 85) zf280_240 rfl).trans ?_
        rfl
      · refine (R_goto (t := 237) zf280_220 rfl).trans ?_
        refine (R_iinc (ls' := [.inr (.inr (.inl 97)), .inl x0, .inl x1, .inl x2, .inl x3, .inl x4, .inl x5, .inl (wI (x6 + 1)), .inl x7, .inl x8, z9]) zf280_237 rfl rfl rfl).trans ?_
        refine (R_goto (t := 85) zf280_240 rfl).trans ?_
        rfl
  · refine (R_iload_n zf280_132 rfl rfl).trans ?_
    refine (R_iload zf280_133 rfl rfl).trans ?_
    refine (R_callI zf280_135 zo_280 zsl_12_229 (by rw [zr_192]; rfl) zl_192 (Nat.le_of_ble_eq_true rfl) rfl rfl (Nat.le_of_ble_eq_true rfl) (Nat.le_of_ble_eq_true rfl) (es := [.inl x2, .inl x8]) rfl rfl).trans ?_
    refine congrArg (cI _) (funext fun a5_ => funext fun h4_ => ?_)
    refine (R_if_ne (t := 144) zf280_138 rfl rfl).trans ?_
    refine ite_congr rfl (fun c6_ => ?_) (fun c6_ => ?_)
    · refine (R_aload_n zf280_144 rfl zlt_97 rfl).trans ?_
      refine (R_iload_n zf280_145 rfl rfl).trans ?_
      refine (R_iload_n zf280_146 rfl rfl).trans ?_
      refine (R_iload zf280_147 rfl rfl).trans ?_
      refine (R_iload zf280_149 rfl rfl).trans ?_
      refine (R_iload zf280_151 rfl rfl).trans ?_
      refine (R_bipush zf280_153 zb_10 rfl).trans ?_
      refine (R_irem zf280_155 (by decide) rfl).trans ?_
      refine (R_iload zf280_156 rfl rfl).trans ?_
      refine (R_bipush zf280_158 zb_10 rfl).trans ?_
      refine (R_idiv zf280_160 (by decide) rfl).trans ?_
      refine (R_iconst zf280_161 zw_0 rfl).trans ?_
      refine (R_vcallI zf280_162 zo_280 zvl_12_329 (by rw [zr_232]; rfl) zl_232 (Nat.le_of_ble_eq_true rfl) rfl rfl (Nat.le_of_ble_eq_true rfl) (Nat.le_of_ble_eq_true rfl) (es := [.inr (.inr (.inl 97)), .inl x0, .inl x1, .inl x6, .inl x5, .inl (x8.tmod 10), .inl (wI (x8.tdiv 10)), .inl 0, vU]) rfl rfl zk1_97 zo_232).trans ?_
      refine congrArg (cI _) (funext fun a8_ => funext fun h7_ => ?_)
      refine (R_aload_n zf280_165 rfl zlt_97 rfl).trans ?_
      refine (R_iload_n zf280_166 rfl rfl).trans ?_
      refine (R_vcallI zf280_167 zo_280 zvl_12_326 (by rw [zr_234]; rfl) zl_234 (Nat.le_of_ble_eq_true rfl) rfl rfl (Nat.le_of_ble_eq_true rfl) (Nat.le_of_ble_eq_true rfl) (es := [.inr (.inr (.inl 97)), .inl x1]) rfl rfl zk1_97 zo_234).trans ?_
      refine congrArg (cI _) (funext fun a10_ => funext fun h9_ => ?_)
      refine (R_isub zf280_170 rfl).trans ?_
      refine (R_mabs zf280_171 zo_280 zsl_12_333 zml_12_333 zna_12_333 (Nat.le_of_ble_eq_true rfl) rfl).trans ?_
      refine (R_istore (ls' := [.inr (.inr (.inl 97)), .inl x0, .inl x1, .inl x2, .inl x3, .inl x4, .inl x5, .inl x6, .inl x7, .inl x8, .inl (ab (wI (a8_ - a10_)))]) zf280_174 (Nat.le_of_ble_eq_true rfl) rfl rfl).trans ?_
      refine (R_aload_n zf280_176 rfl zlt_97 rfl).trans ?_
      refine (R_getR zf280_177 zo_280 zfl_12_83 zk1_97 zft_12_45 zmr_97_45 rfl).trans ?_
      refine (R_iload zf280_180 rfl rfl).trans ?_
      refine (R_dup2 zf280_182 rfl rfl rfl).trans ?_
      refine (R_iald zf280_183 zk_116 rfl).trans ?_
      refine ite_congr rfl (fun c11_ => ?_) (fun _ => rfl)
      refine (R_iconst zf280_184 zw_1 rfl).trans ?_
      refine (R_iadd zf280_185 rfl).trans ?_
      refine (R_iast zf280_186 zk_116 rfl).trans ?_
      refine ite_congr rfl (fun c12_ => ?_) (fun _ => rfl)
      refine (R_iload zf280_187 rfl rfl).trans ?_
      refine (R_aload_n zf280_189 rfl zlt_97 rfl).trans ?_
      refine (R_getR zf280_190 zo_280 zfl_12_83 zk1_97 zft_12_45 zmr_97_45 rfl).trans ?_
      refine (R_iload zf280_193 rfl rfl).trans ?_
      refine (R_iald zf280_195 zk_116 rfl).trans ?_
      refine ite_congr rfl (fun c13_ => ?_) (fun _ => rfl)
      refine (R_mmax zf280_196 zo_280 zsl_12_320 zml_12_320 zna_12_320 (Nat.le_of_ble_eq_true rfl) rfl).trans ?_
      refine (R_istore (ls' := [.inr (.inr (.inl 97)), .inl x0, .inl x1, .inl x2, .inl x3, .inl x4, .inl x5, .inl x6, .inl (mx x7 ((up h9_ 116 (ab (wI (a8_ - a10_))).toNat (wI ((h9_ 116 (ab (wI (a8_ - a10_))).toNat) + 1))) 116 (ab (wI (a8_ - a10_))).toNat)), .inl x8, .inl (ab (wI (a8_ - a10_)))]) zf280_199 (Nat.le_of_ble_eq_true rfl) rfl rfl).trans ?_
      refine (R_iinc (ls' := [.inr (.inr (.inl 97)), .inl x0, .inl x1, .inl x2, .inl x3, .inl x4, .inl x5, .inl x6, .inl (mx x7 ((up h9_ 116 (ab (wI (a8_ - a10_))).toNat (wI ((h9_ 116 (ab (wI (a8_ - a10_))).toNat) + 1))) 116 (ab (wI (a8_ - a10_))).toNat)), .inl (wI (x8 + 1)), .inl (ab (wI (a8_ - a10_)))]) zf280_201 rfl rfl rfl).trans ?_
      refine (R_goto (t := 125) zf280_204 rfl).trans ?_
      rfl
    · refine (R_goto (t := 201) zf280_141 rfl).trans ?_
      refine (R_iinc (ls' := [.inr (.inr (.inl 97)), .inl x0, .inl x1, .inl x2, .inl x3, .inl x4, .inl x5, .inl x6, .inl x7, .inl (wI (x8 + 1)), z9]) zf280_201 rfl rfl rfl).trans ?_
      refine (R_goto (t := 125) zf280_204 rfl).trans ?_
      rfl
-- CannonPostModel.hasAim(II)Z at 0
theorem q283_0 (d : Nat) (x0 : Int) (x1 : Int) (h : MH) : Run (d + 1) 283 0 [.inr (.inr (.inl 97)), .inl x0, .inl x1, vU] [] h = Run (d + 1) 283 2 [.inr (.inr (.inl 97)), .inl x0, .inl x1, .inl 0] [] h := by
  refine (R_iconst zf283_0 zw_0 rfl).trans ?_
  refine (R_istore_n (ls' := [.inr (.inr (.inl 97)), .inl x0, .inl x1, .inl 0]) zf283_1 (Nat.le_of_ble_eq_true rfl) rfl rfl).trans ?_
  rfl
-- CannonPostModel.weightFor(I)J at 31
theorem q292_31 (d : Nat) (x0 : Int) (x1 : Int) (z2 : MV) (hz2 : cat z2 = 1) (x3 : Int) (z4 : MV) (hz4 : cat z4 = 1) (y5 : Int) (h : MH) : Run d 292 31 [.inr (.inr (.inl 97)), .inl x0, .inr (.inl x1), z2, .inl x3, z4] [.inl y5] h = (if 0 ≤ x3 ∧ x3 < 12 then (if (h 118 x3.toNat) = 0 then Run d 292 5 [.inr (.inr (.inl 97)), .inl x0, .inr (.inl (wL (x1 * (wI (10 - y5))))), vU, .inl (wI (x3 + 1)), .inl y5] [] h else Run d 292 5 [.inr (.inr (.inl 97)), .inl x0, .inr (.inl (wL (x1 * y5))), vU, .inl (wI (x3 + 1)), .inl y5] [] h) else none) := by
  refine (R_istore (ls' := [.inr (.inr (.inl 97)), .inl x0, .inr (.inl x1), z2, .inl x3, .inl y5]) zf292_31 (Nat.le_of_ble_eq_true rfl) rfl rfl).trans ?_
  refine (R_lload_n zf292_33 rfl rfl).trans ?_
  refine (R_aload_n zf292_34 rfl zlt_97 rfl).trans ?_
  refine (R_getR zf292_35 zo_292 zfl_12_89 zk1_97 zft_12_48 zmr_97_48 rfl).trans ?_
  refine (R_iload zf292_38 rfl rfl).trans ?_
  refine (R_zald zf292_40 zk_118 rfl).trans ?_
  refine ite_congr rfl (fun c1_ => ?_) (fun _ => rfl)
  refine (R_if_eq (t := 50) zf292_41 rfl rfl).trans ?_
  refine ite_congr rfl (fun c2_ => ?_) (fun c2_ => ?_)
  · refine (R_bipush zf292_50 zb_10 rfl).trans ?_
    refine (R_iload zf292_52 rfl rfl).trans ?_
    refine (R_isub zf292_54 rfl).trans ?_
    refine (R_i2l zf292_55 rfl).trans ?_
    refine (R_lmul zf292_56 rfl).trans ?_
    refine (R_lstore_n (ls' := [.inr (.inr (.inl 97)), .inl x0, .inr (.inl (wL (x1 * (wI (10 - y5))))), vU, .inl x3, .inl y5]) zf292_57 (Nat.le_of_ble_eq_true rfl) rfl rfl).trans ?_
    refine (R_iinc (ls' := [.inr (.inr (.inl 97)), .inl x0, .inr (.inl (wL (x1 * (wI (10 - y5))))), vU, .inl (wI (x3 + 1)), .inl y5]) zf292_58 rfl rfl rfl).trans ?_
    refine (R_goto (t := 5) zf292_61 rfl).trans ?_
    rfl
  · refine (R_iload zf292_44 rfl rfl).trans ?_
    refine (R_i2l zf292_46 rfl).trans ?_
    refine (R_goto (t := 56) zf292_47 rfl).trans ?_
    refine (R_lmul zf292_56 rfl).trans ?_
    refine (R_lstore_n (ls' := [.inr (.inr (.inl 97)), .inl x0, .inr (.inl (wL (x1 * y5))), vU, .inl x3, .inl y5]) zf292_57 (Nat.le_of_ble_eq_true rfl) rfl rfl).trans ?_
    refine (R_iinc (ls' := [.inr (.inr (.inl 97)), .inl x0, .inr (.inl (wL (x1 * y5))), vU, .inl (wI (x3 + 1)), .inl y5]) zf292_58 rfl rfl rfl).trans ?_
    refine (R_goto (t := 5) zf292_61 rfl).trans ?_
    rfl
-- CannonPost$LeagueReader.readClause()Z at 124
theorem q7_124 (d : Nat) (x0 : Int) (z1 : MV) (hz1 : cat z1 = 1) (h : MH) : Run (d + 1) 7 124 [.inr (.inr (.inl 3)), .inl x0, z1] [] h = (if ¬ x0 = 99 then some (some (.inl 0), h) else (if 5 ≤ (h 4 4) then some (some (.inl 0), h) else (cI (Run d 9 0 [.inr (.inr (.inl 3)), .inr (.inr (.inl 21)), .inl (wI (((up h 1 2 (wI ((h 1 2) + 1))) 4 4) * 3)), .inl 7, .inl 10, vU, vU, vU, vU] [] (up (up h 1 2 (wI ((h 1 2) + 1))) 4 4 (wI (((up h 1 2 (wI ((h 1 2) + 1))) 4 4) + 1)))) fun a4_ h3_ => (if a4_ = 0 ∨ a4_ = 1 then some (some (.inl a4_), h3_) else none)))) := by
  refine (R_iload_n zf7_124 rfl rfl).trans ?_
  refine (R_bipush zf7_125 zb_99 rfl).trans ?_
  refine (R_icmp_ne (t := 194) zf7_127 rfl rfl).trans ?_
  refine ite_congr rfl (fun c1_ => ?_) (fun c1_ => ?_)
  · refine (R_iconst zf7_194 zw_0 rfl).trans ?_
    exact R_ireturn zf7_195 (by rw [zr_7]; rfl)
  · refine (R_aload_n zf7_130 rfl zlt_3 rfl).trans ?_
    refine (R_getR zf7_131 zo_7 zfl_6_12 zk1_3 zft_6_0 zmr_3_0 rfl).trans ?_
    refine (R_getI zf7_134 zo_7 zfl_6_39 zk1_4 zft_5_4 rfl).trans ?_
    refine (R_iconst zf7_137 zw_5 rfl).trans ?_
    refine (R_icmp_ge (t := 194) zf7_138 rfl rfl).trans ?_
    refine ite_congr rfl (fun c2_ => ?_) (fun c2_ => ?_)
    · refine (R_iconst zf7_194 zw_0 rfl).trans ?_
      exact R_ireturn zf7_195 (by rw [zr_7]; rfl)
    · refine (R_aload_n zf7_141 rfl zlt_3 rfl).trans ?_
      refine (R_getR zf7_142 zo_7 zfl_6_18 zk1_3 zft_6_1 zmr_3_1 rfl).trans ?_
      refine (R_dup zf7_145 rfl rfl).trans ?_
      refine (R_getI zf7_146 zo_7 zfl_6_22 zk1_1 zft_10_2 rfl).trans ?_
      refine (R_iconst zf7_149 zw_1 rfl).trans ?_
      refine (R_iadd zf7_150 rfl).trans ?_
      refine (R_putI zf7_151 zo_7 zfl_6_22 zk1_1 zft_10_2 rfl).trans ?_
      refine (R_aload_n zf7_154 rfl zlt_3 rfl).trans ?_
      refine (R_getR zf7_155 zo_7 zfl_6_12 zk1_3 zft_6_0 zmr_3_0 rfl).trans ?_
      refine (R_getI zf7_158 zo_7 zfl_6_39 zk1_4 zft_5_4 rfl).trans ?_
      refine (R_iconst zf7_161 zw_3 rfl).trans ?_
      refine (R_imul zf7_162 rfl).trans ?_
      refine (R_istore_n (ls' := [.inr (.inr (.inl 3)), .inl x0, .inl (wI (((up h 1 2 (wI ((h 1 2) + 1))) 4 4) * 3))]) zf7_163 (Nat.le_of_ble_eq_true rfl) rfl rfl).trans ?_
      refine (R_aload_n zf7_164 rfl zlt_3 rfl).trans ?_
      refine (R_getR zf7_165 zo_7 zfl_6_12 zk1_3 zft_6_0 zmr_3_0 rfl).trans ?_
      refine (R_dup zf7_168 rfl rfl).trans ?_
      refine (R_getI zf7_169 zo_7 zfl_6_39 zk1_4 zft_5_4 rfl).trans ?_
      refine (R_iconst zf7_172 zw_1 rfl).trans ?_
      refine (R_iadd zf7_173 rfl).trans ?_
      refine (R_putI zf7_174 zo_7 zfl_6_39 zk1_4 zft_5_4 rfl).trans ?_
      refine (R_aload_n zf7_177 rfl zlt_3 rfl).trans ?_
      refine (R_aload_n zf7_178 rfl zlt_3 rfl).trans ?_
      refine (R_getR zf7_179 zo_7 zfl_6_12 zk1_3 zft_6_0 zmr_3_0 rfl).trans ?_
      refine (R_getR zf7_182 zo_7 zfl_6_76 zk1_4 zft_5_2 zmr_4_2 rfl).trans ?_
      refine (R_iload_n zf7_185 rfl rfl).trans ?_
      refine (R_bipush zf7_186 zb_7 rfl).trans ?_
      refine (R_bipush zf7_188 zb_10 rfl).trans ?_
      refine (R_vcallI zf7_190 zo_7 zvl_6_69 (by rw [zr_9]; rfl) zl_9 (Nat.le_of_ble_eq_true rfl) rfl rfl (Nat.le_of_ble_eq_true rfl) (Nat.le_of_ble_eq_true rfl) (es := [.inr (.inr (.inl 3)), .inr (.inr (.inl 21)), .inl (wI (((up h 1 2 (wI ((h 1 2) + 1))) 4 4) * 3)), .inl 7, .inl 10, vU, vU, vU, vU]) rfl rfl zk1_3 zo_9).trans ?_
      refine congrArg (cI _) (funext fun a4_ => funext fun h3_ => ?_)
      exact R_ireturn_z zf7_193 zr_7
-- CannonPost$LeagueReader.readItems([IIII)Z at 0
theorem q9_0_1 (d : Nat) (x0 : Int) (x1 : Int) (x2 : Int) (h : MH) : Run (d + 1) 9 0 [.inr (.inr (.inl 3)), .inr (.inr (.inl 20)), .inl x0, .inl x1, .inl x2, vU, vU, vU, vU] [] h = (if (0 : Int) ≤ (wI (x2 - x1)) ∧ (0 : Int) ≤ x0 ∧ (0 : Int) ≤ x1 ∧ (x0 + (wI (x2 - x1)) : Int) ≤ 24 ∧ (x1 + (wI (x2 - x1)) : Int) ≤ 10 then Run (d + 1) 9 19 [.inr (.inr (.inl 3)), .inr (.inr (.inl 20)), .inl x0, .inl x1, .inl x2, .inl 0, .inl 0, vU, vU] [] (cpy h (ro 121) 20 x1.toNat x0.toNat (wI (x2 - x1)).toNat) else none) := by
  refine (R_getsR zf9_0 zo_9 zgl_6_42 rfl).trans ?_
  refine (R_iload_n zf9_3 rfl rfl).trans ?_
  refine (R_aload_n zf9_4 rfl zlt_20 rfl).trans ?_
  refine (R_iload_n zf9_5 rfl rfl).trans ?_
  refine (R_iload zf9_6 rfl rfl).trans ?_
  refine (R_iload_n zf9_8 rfl rfl).trans ?_
  refine (R_isub zf9_9 rfl).trans ?_
  refine (R_acpyR zf9_10 zo_9 zsl_6_49 zal_6_49 zk_121 zk_20 (Nat.le_of_ble_eq_true rfl) rfl).trans ?_
  refine ite_congr rfl (fun c1_ => ?_) (fun _ => rfl)
  refine (R_iconst zf9_13 zw_0 rfl).trans ?_
  refine (R_istore (ls' := [.inr (.inr (.inl 3)), .inr (.inr (.inl 20)), .inl x0, .inl x1, .inl x2, .inl 0, vU, vU, vU]) zf9_14 (Nat.le_of_ble_eq_true rfl) rfl rfl).trans ?_
  refine (R_iconst zf9_16 zw_0 rfl).trans ?_
  refine (R_istore (ls' := [.inr (.inr (.inl 3)), .inr (.inr (.inl 20)), .inl x0, .inl x1, .inl x2, .inl 0, .inl 0, vU, vU]) zf9_17 (Nat.le_of_ble_eq_true rfl) rfl rfl).trans ?_
  rfl
-- CannonPost$LeagueReader.readItems([IIII)Z at 19
theorem q9_19 (d : Nat) (x0 : Int) (x1 : Int) (x2 : Int) (x3 : Int) (x4 : Int) (z5 : MV) (hz5 : cat z5 = 1) (z6 : MV) (hz6 : cat z6 = 1) (h : MH) : Run (d + 1) 9 19 [.inr (.inr (.inl 3)), .inr (.inr (.inl 19)), .inl x0, .inl x1, .inl x2, .inl x3, .inl x4, z5, z6] [] h = (if (wI (x2 - x1)) < x4 then some (some (.inl 0), h) else (cI (Run d 8 0 [.inr (.inr (.inl 1))] [] h) fun a3_ h2_ => (cI (Run d 10 0 [.inl a3_, .inl x1, .inl x2, vU] [] h2_) fun a5_ h4_ => (if ¬ a5_ = (-1) then (if (iAnd (iShr x3 a5_) 1) = 0 then (cI (Run d 8 0 [.inr (.inr (.inl 1))] [] (up h4_ 1 2 (wI ((h4_ 1 2) + 1)))) fun a9_ h8_ => (cI (Run d 16 0 [.inr (.inr (.inl 1)), .inl 2, vU, vU] [] h8_) fun a11_ h10_ => (if ¬ a11_ = (-1) then (if 0 ≤ a5_ ∧ a5_ < 10 then (if a11_ < (ro 122 a5_.toNat) then some (some (.inl 0), (up h10_ 1 2 (wI ((h10_ 1 2) - 1)))) else (if 0 ≤ a5_ ∧ a5_ < 10 then (if a11_ ≤ (ro 123 a5_.toNat) then (if 0 ≤ (wI ((wI (x0 + a5_)) - x1)) ∧ (wI ((wI (x0 + a5_)) - x1)) < 4 then Run (d + 1) 9 19 [.inr (.inr (.inl 3)), .inr (.inr (.inl 19)), .inl x0, .inl x1, .inl x2, .inl (iOr x3 (iShl 1 a5_)), .inl (wI (x4 + 1)), .inl a5_, .inl a11_] [] (up h10_ 19 (wI ((wI (x0 + a5_)) - x1)).toNat a11_) else none) else some (some (.inl 0), (up h10_ 1 2 (wI ((h10_ 1 2) - 1))))) else none)) else none) else some (some (.inl 0), h10_)))) else some (some (.inl 0), h4_)) else some (some (.inl 1), h4_))))) := by
  refine (R_iload zf9_19 rfl rfl).trans ?_
  refine (R_iload zf9_21 rfl rfl).trans ?_
  refine (R_iload_n zf9_23 rfl rfl).trans ?_
  refine (R_isub zf9_24 rfl).trans ?_
  refine (R_icmp_gt (t := 164) zf9_25 rfl rfl).trans ?_
  refine ite_congr rfl (fun c1_ => ?_) (fun c1_ => ?_)
  · refine (R_iconst zf9_164 zw_0 rfl).trans ?_
    exact R_ireturn zf9_165 (by rw [zr_9]; rfl)
  · refine (R_aload_n zf9_28 rfl zlt_3 rfl).trans ?_
    refine (R_getR zf9_29 zo_9 zfl_6_18 zk1_3 zft_6_1 zmr_3_1 rfl).trans ?_
    refine (R_vcallI zf9_32 zo_9 zvl_6_58 (by rw [zr_8]; rfl) zl_8 (Nat.le_of_ble_eq_true rfl) rfl rfl (Nat.le_of_ble_eq_true rfl) (Nat.le_of_ble_eq_true rfl) (es := [.inr (.inr (.inl 1))]) rfl rfl zk1_1 zo_8).trans ?_
    refine congrArg (cI _) (funext fun a3_ => funext fun h2_ => ?_)
    refine (R_iload_n zf9_35 rfl rfl).trans ?_
    refine (R_iload zf9_36 rfl rfl).trans ?_
    refine (R_callI zf9_38 zo_9 zsl_6_79 (by rw [zr_10]; rfl) zl_10 (Nat.le_of_ble_eq_true rfl) rfl rfl (Nat.le_of_ble_eq_true rfl) (Nat.le_of_ble_eq_true rfl) (es := [.inl a3_, .inl x1, .inl x2, vU]) rfl rfl).trans ?_
    refine congrArg (cI _) (funext fun a5_ => funext fun h4_ => ?_)
    refine (R_istore (ls' := [.inr (.inr (.inl 3)), .inr (.inr (.inl 19)), .inl x0, .inl x1, .inl x2, .inl x3, .inl x4, .inl a5_, z6]) zf9_41 (Nat.le_of_ble_eq_true rfl) rfl rfl).trans ?_
    refine (R_iload zf9_43 rfl rfl).trans ?_
    refine (R_iconst zf9_45 zw_m1 rfl).trans ?_
    refine (R_icmp_ne (t := 51) zf9_46 rfl rfl).trans ?_
    refine ite_congr rfl (fun c6_ => ?_) (fun c6_ => ?_)
    · refine (R_iload zf9_51 rfl rfl).trans ?_
      refine (R_iload zf9_53 rfl rfl).trans ?_
      refine (R_ishr zf9_55 rfl).trans ?_
      refine (R_iconst zf9_56 zw_1 rfl).trans ?_
      refine (R_iand zf9_57 rfl).trans ?_
      refine (R_if_eq (t := 63) zf9_58 rfl rfl).trans ?_
      refine ite_congr rfl (fun c7_ => ?_) (fun c7_ => ?_)
      · refine (R_iload zf9_63 rfl rfl).trans ?_
        refine (R_iconst zf9_65 zw_1 rfl).trans ?_
        refine (R_iload zf9_66 rfl rfl).trans ?_
        refine (R_ishl zf9_68 rfl).trans ?_
        refine (R_ior zf9_69 rfl).trans ?_
        refine (R_istore (ls' := [.inr (.inr (.inl 3)), .inr (.inr (.inl 19)), .inl x0, .inl x1, .inl x2, .inl (iOr x3 (iShl 1 a5_)), .inl x4, .inl a5_, z6]) zf9_70 (Nat.le_of_ble_eq_true rfl) rfl rfl).trans ?_
        refine (R_aload_n zf9_72 rfl zlt_3 rfl).trans ?_
        refine (R_getR zf9_73 zo_9 zfl_6_18 zk1_3 zft_6_1 zmr_3_1 rfl).trans ?_
        refine (R_dup zf9_76 rfl rfl).trans ?_
        refine (R_getI zf9_77 zo_9 zfl_6_22 zk1_1 zft_10_2 rfl).trans ?_
        refine (R_iconst zf9_80 zw_1 rfl).trans ?_
        refine (R_iadd zf9_81 rfl).trans ?_
        refine (R_putI zf9_82 zo_9 zfl_6_22 zk1_1 zft_10_2 rfl).trans ?_
        refine (R_aload_n zf9_85 rfl zlt_3 rfl).trans ?_
        refine (R_getR zf9_86 zo_9 zfl_6_18 zk1_3 zft_6_1 zmr_3_1 rfl).trans ?_
        refine (R_vcallI zf9_89 zo_9 zvl_6_58 (by rw [zr_8]; rfl) zl_8 (Nat.le_of_ble_eq_true rfl) rfl rfl (Nat.le_of_ble_eq_true rfl) (Nat.le_of_ble_eq_true rfl) (es := [.inr (.inr (.inl 1))]) rfl rfl zk1_1 zo_8).trans ?_
        refine congrArg (cI _) (funext fun a9_ => funext fun h8_ => ?_)
        refine (R_pop zf9_92 rfl rfl).trans ?_
        refine (R_aload_n zf9_93 rfl zlt_3 rfl).trans ?_
        refine (R_getR zf9_94 zo_9 zfl_6_18 zk1_3 zft_6_1 zmr_3_1 rfl).trans ?_
        refine (R_iconst zf9_97 zw_2 rfl).trans ?_
        refine (R_vcallI zf9_98 zo_9 zvl_6_83 (by rw [zr_16]; rfl) zl_16 (Nat.le_of_ble_eq_true rfl) rfl rfl (Nat.le_of_ble_eq_true rfl) (Nat.le_of_ble_eq_true rfl) (es := [.inr (.inr (.inl 1)), .inl 2, vU, vU]) rfl rfl zk1_1 zo_16).trans ?_
        refine congrArg (cI _) (funext fun a11_ => funext fun h10_ => ?_)
        refine (R_istore (ls' := [.inr (.inr (.inl 3)), .inr (.inr (.inl 19)), .inl x0, .inl x1, .inl x2, .inl (iOr x3 (iShl 1 a5_)), .inl x4, .inl a5_, .inl a11_]) zf9_101 (Nat.le_of_ble_eq_true rfl) rfl rfl).trans ?_
        refine (R_iload zf9_103 rfl rfl).trans ?_
        refine (R_iconst zf9_105 zw_m1 rfl).trans ?_
        refine (R_icmp_ne (t := 111) zf9_106 rfl rfl).trans ?_
        refine ite_congr rfl (fun c12_ => ?_) (fun c12_ => ?_)
        · refine (R_iload zf9_111 rfl rfl).trans ?_
          refine (R_getsR zf9_113 zo_9 zgl_6_87 rfl).trans ?_
          refine (R_iload zf9_116 rfl rfl).trans ?_
          refine (R_iald110 zf9_118 zk_122 rfl).trans ?_
          refine ite_congr rfl (fun c13_ => ?_) (fun _ => rfl)
          refine (R_icmp_lt (t := 133) zf9_119 rfl rfl).trans ?_
          refine ite_congr rfl (fun c14_ => ?_) (fun c14_ => ?_)
          · refine (R_aload_n zf9_133 rfl zlt_3 rfl).trans ?_
            refine (R_getR zf9_134 zo_9 zfl_6_18 zk1_3 zft_6_1 zmr_3_1 rfl).trans ?_
            refine (R_dup zf9_137 rfl rfl).trans ?_
            refine (R_getI zf9_138 zo_9 zfl_6_22 zk1_1 zft_10_2 rfl).trans ?_
            refine (R_iconst zf9_141 zw_1 rfl).trans ?_
            refine (R_isub zf9_142 rfl).trans ?_
            refine (R_putI zf9_143 zo_9 zfl_6_22 zk1_1 zft_10_2 rfl).trans ?_
            refine (R_iconst zf9_146 zw_0 rfl).trans ?_
            exact R_ireturn zf9_147 (by rw [zr_9]; rfl)
          · refine (R_iload zf9_122 rfl rfl).trans ?_
            refine (R_getsR zf9_124 zo_9 zgl_6_90 rfl).trans ?_
            refine (R_iload zf9_127 rfl rfl).trans ?_
            refine (R_iald110 zf9_129 zk_123 rfl).trans ?_
            refine ite_congr rfl (fun c15_ => ?_) (fun _ => rfl)
            refine (R_icmp_le (t := 148) zf9_130 rfl rfl).trans ?_
            refine ite_congr rfl (fun c16_ => ?_) (fun c16_ => ?_)
            · refine (R_aload_n zf9_148 rfl zlt_19 rfl).trans ?_
              refine (R_iload_n zf9_149 rfl rfl).trans ?_
              refine (R_iload zf9_150 rfl rfl).trans ?_
              refine (R_iadd zf9_152 rfl).trans ?_
              refine (R_iload_n zf9_153 rfl rfl).trans ?_
              refine (R_isub zf9_154 rfl).trans ?_
              refine (R_iload zf9_155 rfl rfl).trans ?_
              refine (R_iast zf9_157 zk_19 rfl).trans ?_
              refine ite_congr rfl (fun c17_ => ?_) (fun _ => rfl)
              refine (R_iinc (ls' := [.inr (.inr (.inl 3)), .inr (.inr (.inl 19)), .inl x0, .inl x1, .inl x2, .inl (iOr x3 (iShl 1 a5_)), .inl (wI (x4 + 1)), .inl a5_, .inl a11_]) zf9_158 rfl rfl rfl).trans ?_
              refine (R_goto (t := 19) zf9_161 rfl).trans ?_
              rfl
            · refine (R_aload_n zf9_133 rfl zlt_3 rfl).trans ?_
              refine (R_getR zf9_134 zo_9 zfl_6_18 zk1_3 zft_6_1 zmr_3_1 rfl).trans ?_
              refine (R_dup zf9_137 rfl rfl).trans ?_
              refine (R_getI zf9_138 zo_9 zfl_6_22 zk1_1 zft_10_2 rfl).trans ?_
              refine (R_iconst zf9_141 zw_1 rfl).trans ?_
              refine (R_isub zf9_142 rfl).trans ?_
              refine (R_putI zf9_143 zo_9 zfl_6_22 zk1_1 zft_10_2 rfl).trans ?_
              refine (R_iconst zf9_146 zw_0 rfl).trans ?_
              exact R_ireturn zf9_147 (by rw [zr_9]; rfl)
        · refine (R_iconst zf9_109 zw_0 rfl).trans ?_
          exact R_ireturn zf9_110 (by rw [zr_9]; rfl)
      · refine (R_iconst zf9_61 zw_0 rfl).trans ?_
        exact R_ireturn zf9_62 (by rw [zr_9]; rfl)
    · refine (R_iconst zf9_49 zw_1 rfl).trans ?_
      exact R_ireturn zf9_50 (by rw [zr_9]; rfl)
