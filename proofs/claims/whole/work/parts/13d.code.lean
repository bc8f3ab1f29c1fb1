/-! the methods as equations of Run: CannonPost.allSayable=105, CannonPost.canFire=71, CannonPost.canHear=91, CannonPost.canStep=118, CannonPost.drawAheadOfHour=102, CannonPost.drawn=104, CannonPost.follow=117, CannonPost.rests=167, CannonPost.stepOnce=119, CannonPost.turned=103, CannonPostModel.ask=280, CannonPostModel.canBlow=242, CannonPostModel.canHear=238, CannonPostModel.canShoot=227, CannonPostModel.clause=200, CannonPostModel.copy=256, CannonPostModel.fits=279, CannonPostModel.following=293, CannonPostModel.gameOf=287, CannonPostModel.goHour=247, CannonPostModel.goRoute=268, CannonPostModel.goThrough=199, CannonPostModel.layAims=264, CannonPostModel.leastHay=296, CannonPostModel.mayPass=246, CannonPostModel.meantFor=291, CannonPostModel.nearest=298, CannonPostModel.nearestTo=236, CannonPostModel.netOf=282, CannonPostModel.reach=233, CannonPostModel.readLeague=184, CannonPostModel.readPlan=213, CannonPostModel.relay=272, CannonPostModel.says=250, CannonPostModel.steps=259, CannonPostModel.text=216, CannonPostModel.timesOf=258, CannonPostModel.usual=186, CannonPostModel.weightFor=292, Flight.reckon=126, Guesses.explains=151, Guesses.hasFaceOf=163, Guesses.product=161, Guesses.tellingShot=154, History.keep=77, LawReader.readClause=23, Lawbook.worth=84, League.firstHay=52, League.firstPowder=49, League.firstWind=50, League.firstWindWay=51, League.isWhole=17, LeagueReader.readClause=7, LeagueReader.readClauses=6, Paths.firstShot=133, Paths.link=139, Paths.netFrom=140, Paths.trace=128, Planbook.add=59, Planbook.hasRoom=58, Planbook.readDigits=40, Planbook.readFirst=41, Planbook.readPowder=43, Planbook.readStep=39, State.begin=47, State.blows=96, State.land=88, State.passHour=100, Tape.next=8, Tape.take=21, java/util/Arrays.fill=48 -/
-- CannonPostModel.relay(III)I at 97
theorem q272_97 (d : Nat) (z0 : MV) (hz0 : cat z0 = 1) (x1 : Int) (x2 : Int) (x3 : Int) (x4 : Int) (z5 : MV) (hz5 : cat z5 = 1) (z6 : MV) (hz6 : cat z6 = 1) (h : MH) : Run (d + 1) 272 97 [.inr (.inr (.inl 97)), z0, .inl x1, .inl x2, .inl x3, .inl x4, z5, z6] [] h = (if 4 ≤ x4 then some (some (.inl (-1)), h) else Run (d + 1) 272 106 [.inr (.inr (.inl 97)), z0, .inl x1, .inl x2, .inl x3, .inl x4, .inl 0, z6] [] h) := by
  refine (R_iload zf272_97 rfl rfl).trans ?_
  refine (R_iconst zf272_99 zw_4 rfl).trans ?_
  refine (R_icmp_ge (t := 193) zf272_100 rfl rfl).trans ?_
  refine ite_congr rfl (fun c1_ => ?_) (fun c1_ => ?_)
  · refine (R_iconst zf272_193 zw_m1 rfl).trans ?_
    exact R_ireturn_i zf272_194 zr_272
  · refine (R_iconst zf272_103 zw_0 rfl).trans ?_
    refine (R_istore (ls' := [.inr (.inr (.inl 97)), z0, .inl x1, .inl x2, .inl x3, .inl x4, .inl 0, z6]) zf272_104 (Nat.le_of_ble_eq_true rfl) rfl rfl).trans ?_
    rfl
-- CannonPostModel.fits(I)Z at 0
theorem q279_0 (d : Nat) (x0 : Int) (h : MH) : Run (d + 1) 279 0 [.inr (.inr (.inl 97)), .inl x0, vU] [] h = (if ¬ x0 = 10 then Run (d + 1) 279 10 [.inr (.inr (.inl 97)), .inl x0, .inl 0] [] h else some (some (.inl 0), h)) := by
  refine (R_iload_n zf279_0 rfl rfl).trans ?_
  refine (R_bipush zf279_1 zb_10 rfl).trans ?_
  refine (R_icmp_ne (t := 8) zf279_3 rfl rfl).trans ?_
  refine ite_congr rfl (fun c1_ => ?_) (fun c1_ => ?_)
  · refine (R_iconst zf279_8 zw_0 rfl).trans ?_
    refine (R_istore_n (ls' := [.inr (.inr (.inl 97)), .inl x0, .inl 0]) zf279_9 (Nat.le_of_ble_eq_true rfl) rfl rfl).trans ?_
    rfl
  · refine (R_iconst zf279_6 zw_0 rfl).trans ?_
    exact R_ireturn zf279_7 (by rw [zr_279]; rfl)
-- CannonPostModel.ask(II)I at 76
theorem q280_76 (d : Nat) (x0 : Int) (x1 : Int) (x2 : Int) (x3 : Int) (x4 : Int) (x5 : Int) (z6 : MV) (hz6 : cat z6 = 1) (z7 : MV) (hz7 : cat z7 = 1) (z8 : MV) (hz8 : cat z8 = 1) (z9 : MV) (hz9 : cat z9 = 1) (h : MH) : Run (d + 1) 280 76 [.inr (.inr (.inl 97)), .inl x0, .inl x1, .inl x2, .inl x3, .inl x4, .inl x5, z6, z7, z8, z9] [] h = (if 2 ≤ x5 then some (some (.inl x3), h) else Run (d + 1) 280 85 [.inr (.inr (.inl 97)), .inl x0, .inl x1, .inl x2, .inl x3, .inl x4, .inl x5, .inl 1, z7, z8, z9] [] h) := by
  refine (R_iload zf280_76 rfl rfl).trans ?_
  refine (R_iconst zf280_78 zw_2 rfl).trans ?_
  refine (R_icmp_ge (t := 249) zf280_79 rfl rfl).trans ?_
  refine ite_congr rfl (fun c1_ => ?_) (fun c1_ => ?_)
  · refine (R_iload zf280_249 rfl rfl).trans ?_
    exact R_ireturn_i zf280_251 zr_280
  · refine (R_iconst zf280_82 zw_1 rfl).trans ?_
    refine (R_istore (ls' := [.inr (.inr (.inl 97)), .inl x0, .inl x1, .inl x2, .inl x3, .inl x4, .inl x5, .inl 1, z7, z8, z9]) zf280_83 (Nat.le_of_ble_eq_true rfl) rfl rfl).trans ?_
    rfl
-- CannonPostModel.netOf(II)I at 7
theorem q282_7 (d : Nat) (z0 : MV) (hz0 : cat z0 = 1) (x1 : Int) (x2 : Int) (x3 : Int) (z4 : MV) (hz4 : cat z4 = 1) (z5 : MV) (hz5 : cat z5 = 1) (h : MH) : Run (d + 1) 282 7 [.inr (.inr (.inl 97)), z0, .inl x1, .inl x2, .inl x3, z4, z5] [] h = (if (h 97 26) ≤ x3 then some (some (.inl x2), h) else Run (d + 1) 282 19 [.inr (.inr (.inl 97)), z0, .inl x1, .inl x2, .inl x3, .inl 0, z5] [] h) := by
  refine (R_iload zf282_7 rfl rfl).trans ?_
  refine (R_aload_n zf282_9 rfl zlt_97 rfl).trans ?_
  refine (R_getI zf282_10 zo_282 zfl_12_294 zk1_97 zft_12_26 rfl).trans ?_
  refine (R_icmp_ge (t := 91) zf282_13 rfl rfl).trans ?_
  refine ite_congr rfl (fun c1_ => ?_) (fun c1_ => ?_)
  · refine (R_iload_n zf282_91 rfl rfl).trans ?_
    exact R_ireturn_i zf282_92 zr_282
  · refine (R_iconst zf282_16 zw_0 rfl).trans ?_
    refine (R_istore (ls' := [.inr (.inr (.inl 97)), z0, .inl x1, .inl x2, .inl x3, .inl 0, z5]) zf282_17 (Nat.le_of_ble_eq_true rfl) rfl rfl).trans ?_
    rfl
-- CannonPostModel.gameOf(IIII)I at 13
theorem q287_13 (d : Nat) (x0 : Int) (x1 : Int) (x2 : Int) (x3 : Int) (z4 : MV) (hz4 : cat z4 = 1) (y5 : Int) (h : MH) : Run (d + 1) 287 13 [.inr (.inr (.inl 97)), .inl x0, .inl x1, .inl x2, .inl x3, z4] [.inl y5] h = (if ¬ x2 = 1 then (if ¬ (wI (x2 + x3)) = 2 then some (some (.inl y5), h) else some (some (.inl (wI (y5 - 2))), h)) else (cI (Run d 223 0 [.inr (.inr (.inl 97)), .inl x0, .inl 0] [] h) fun a4_ h3_ => (if ¬ (wI (x2 + x3)) = 2 then some (some (.inl (wI (y5 - (wI ((wI (x1.tdiv 2)) + (wI (a4_.tdiv 3))))))), h3_) else some (some (.inl (wI ((wI (y5 - (wI ((wI (x1.tdiv 2)) + (wI (a4_.tdiv 3)))))) - 2))), h3_)))) := by
  refine (R_istore (ls' := [.inr (.inr (.inl 97)), .inl x0, .inl x1, .inl x2, .inl x3, .inl y5]) zf287_13 (Nat.le_of_ble_eq_true rfl) rfl rfl).trans ?_
  refine (R_iload_n zf287_15 rfl rfl).trans ?_
  refine (R_iconst zf287_16 zw_1 rfl).trans ?_
  refine (R_icmp_ne (t := 37) zf287_17 rfl rfl).trans ?_
  refine ite_congr rfl (fun c1_ => ?_) (fun c1_ => ?_)
  · refine (R_iload_n zf287_37 rfl rfl).trans ?_
    refine (R_iload zf287_38 rfl rfl).trans ?_
    refine (R_iadd zf287_40 rfl).trans ?_
    refine (R_iconst zf287_41 zw_2 rfl).trans ?_
    refine (R_icmp_ne (t := 52) zf287_42 rfl rfl).trans ?_
    refine ite_congr rfl (fun c2_ => ?_) (fun c2_ => ?_)
    · refine (R_iload zf287_52 rfl rfl).trans ?_
      exact R_ireturn_i zf287_54 zr_287
    · refine (R_iload zf287_45 rfl rfl).trans ?_
      refine (R_iconst zf287_47 zw_2 rfl).trans ?_
      refine (R_isub zf287_48 rfl).trans ?_
      refine (R_goto (t := 54) zf287_49 rfl).trans ?_
      exact R_ireturn_i zf287_54 zr_287
  · refine (R_iload zf287_20 rfl rfl).trans ?_
    refine (R_iload_n zf287_22 rfl rfl).trans ?_
    refine (R_iconst zf287_23 zw_2 rfl).trans ?_
    refine (R_idiv zf287_24 (by decide) rfl).trans ?_
    refine (R_aload_n zf287_25 rfl zlt_97 rfl).trans ?_
    refine (R_iload_n zf287_26 rfl rfl).trans ?_
    refine (R_iconst zf287_27 zw_0 rfl).trans ?_
    refine (R_vcallI zf287_28 zo_287 zvl_12_315 (by rw [zr_223]; rfl) zl_223 (Nat.le_of_ble_eq_true rfl) rfl rfl (Nat.le_of_ble_eq_true rfl) (Nat.le_of_ble_eq_true rfl) (es := [.inr (.inr (.inl 97)), .inl x0, .inl 0]) rfl rfl zk1_97 zo_223).trans ?_
    refine congrArg (cI _) (funext fun a4_ => funext fun h3_ => ?_)
    refine (R_iconst zf287_31 zw_3 rfl).trans ?_
    refine (R_idiv zf287_32 (by decide) rfl).trans ?_
    refine (R_iadd zf287_33 rfl).trans ?_
    refine (R_isub zf287_34 rfl).trans ?_
    refine (R_istore (ls' := [.inr (.inr (.inl 97)), .inl x0, .inl x1, .inl x2, .inl x3, .inl (wI (y5 - (wI ((wI (x1.tdiv 2)) + (wI (a4_.tdiv 3))))))]) zf287_35 (Nat.le_of_ble_eq_true rfl) rfl rfl).trans ?_
    refine (R_iload_n zf287_37 rfl rfl).trans ?_
    refine (R_iload zf287_38 rfl rfl).trans ?_
    refine (R_iadd zf287_40 rfl).trans ?_
    refine (R_iconst zf287_41 zw_2 rfl).trans ?_
    refine (R_icmp_ne (t := 52) zf287_42 rfl rfl).trans ?_
    refine ite_congr rfl (fun c5_ => ?_) (fun c5_ => ?_)
    · refine (R_iload zf287_52 rfl rfl).trans ?_
      exact R_ireturn_i zf287_54 zr_287
    · refine (R_iload zf287_45 rfl rfl).trans ?_
      refine (R_iconst zf287_47 zw_2 rfl).trans ?_
      refine (R_isub zf287_48 rfl).trans ?_
      refine (R_goto (t := 54) zf287_49 rfl).trans ?_
      exact R_ireturn_i zf287_54 zr_287
-- CannonPostModel.meantFor(I)I at 5
theorem q291_5 (d : Nat) (x0 : Int) (x1 : Int) (z2 : MV) (hz2 : cat z2 = 1) (x3 : Int) (h : MH) : Run (d + 1) 291 5 [.inr (.inr (.inl 97)), .inl x0, .inr (.inl x1), z2, .inl x3] [] h = (if (h 97 26) ≤ x3 then (cJ (Run d 292 0 [.inr (.inr (.inl 97)), .inl x0, vU, vU, vU, vU] [] h) fun a3_ h2_ => (if x1 = 0 then none else some (some (.inl (wI (wL ((wL (1000000 * a3_)).tdiv x1)))), h2_))) else (cJ (Run d 292 0 [.inr (.inr (.inl 97)), .inl x3, vU, vU, vU, vU] [] h) fun a5_ h4_ => Run (d + 1) 291 5 [.inr (.inr (.inl 97)), .inl x0, .inr (.inl (wL (x1 + a5_))), vU, .inl (wI (x3 + 1))] [] h4_)) := by
  refine (R_iload zf291_5 rfl rfl).trans ?_
  refine (R_aload_n zf291_7 rfl zlt_97 rfl).trans ?_
  refine (R_getI zf291_8 zo_291 zfl_12_294 zk1_97 zft_12_26 rfl).trans ?_
  refine (R_icmp_ge (t := 29) zf291_11 rfl rfl).trans ?_
  refine ite_congr rfl (fun c1_ => ?_) (fun c1_ => ?_)
  · refine (R_ldc2_w zf291_29 zo_291 zll_12_143 rfl).trans ?_
    refine (R_aload_n zf291_32 rfl zlt_97 rfl).trans ?_
    refine (R_iload_n zf291_33 rfl rfl).trans ?_
    refine (R_vcallJ zf291_34 zo_291 zvl_12_507 zr_292 zl_292 (Nat.le_of_ble_eq_true rfl) rfl rfl (Nat.le_of_ble_eq_true rfl) (Nat.le_of_ble_eq_true rfl) (es := [.inr (.inr (.inl 97)), .inl x0, vU, vU, vU, vU]) rfl rfl zk1_97 zo_292).trans ?_
    refine congrArg (cJ _) (funext fun a3_ => funext fun h2_ => ?_)
    refine (R_lmul zf291_37 rfl).trans ?_
    refine (R_lload_n zf291_38 rfl rfl).trans ?_
    refine (R_ldiv0 zf291_39 rfl).trans ?_
    refine ite_congr rfl (fun _ => rfl) (fun _ => ?_)
    refine (R_l2i zf291_40 rfl).trans ?_
    exact R_ireturn_i zf291_41 zr_291
  · refine (R_lload_n zf291_14 rfl rfl).trans ?_
    refine (R_aload_n zf291_15 rfl zlt_97 rfl).trans ?_
    refine (R_iload zf291_16 rfl rfl).trans ?_
    refine (R_vcallJ zf291_18 zo_291 zvl_12_507 zr_292 zl_292 (Nat.le_of_ble_eq_true rfl) rfl rfl (Nat.le_of_ble_eq_true rfl) (Nat.le_of_ble_eq_true rfl) (es := [.inr (.inr (.inl 97)), .inl x3, vU, vU, vU, vU]) rfl rfl zk1_97 zo_292).trans ?_
    refine congrArg (cJ _) (funext fun a5_ => funext fun h4_ => ?_)
    refine (R_ladd zf291_21 rfl).trans ?_
    refine (R_lstore_n (ls' := [.inr (.inr (.inl 97)), .inl x0, .inr (.inl (wL (x1 + a5_))), vU, .inl x3]) zf291_22 (Nat.le_of_ble_eq_true rfl) rfl rfl).trans ?_
    refine (R_iinc (ls' := [.inr (.inr (.inl 97)), .inl x0, .inr (.inl (wL (x1 + a5_))), vU, .inl (wI (x3 + 1))]) zf291_23 rfl rfl rfl).trans ?_
    refine (R_goto (t := 5) zf291_26 rfl).trans ?_
    rfl
-- CannonPostModel.following()I at 38
theorem q293_38 (d : Nat) (x0 : Int) (x1 : Int) (x2 : Int) (h : MH) : Run (d + 1) 293 38 [.inr (.inr (.inl 97)), .inl x0, .inl x1, .inl x2] [] h = (if (h 97 26) ≤ x2 then some (some (.inl x1), h) else (cI (Run d 192 0 [.inl x0, .inl x2] [] h) fun a3_ h2_ => (if ¬ a3_ = 0 then Run (d + 1) 293 38 [.inr (.inr (.inl 97)), .inl x0, .inl x1, .inl (wI (x2 + 1))] [] h2_ else (if x1 = (-1) then Run (d + 1) 293 38 [.inr (.inr (.inl 97)), .inl x0, .inl x2, .inl (wI (x2 + 1))] [] h2_ else (cI (Run d 291 0 [.inr (.inr (.inl 97)), .inl x2, vU, vU, vU] [] h2_) fun a7_ h6_ => (cI (Run d 291 0 [.inr (.inr (.inl 97)), .inl x1, vU, vU, vU] [] h6_) fun a9_ h8_ => (if a7_ ≤ a9_ then Run (d + 1) 293 38 [.inr (.inr (.inl 97)), .inl x0, .inl x1, .inl (wI (x2 + 1))] [] h8_ else Run (d + 1) 293 38 [.inr (.inr (.inl 97)), .inl x0, .inl x2, .inl (wI (x2 + 1))] [] h8_))))))) := by
  refine (R_iload_n zf293_38 rfl rfl).trans ?_
  refine (R_aload_n zf293_39 rfl zlt_97 rfl).trans ?_
  refine (R_getI zf293_40 zo_293 zfl_12_294 zk1_97 zft_12_26 rfl).trans ?_
  refine (R_icmp_ge (t := 80) zf293_43 rfl rfl).trans ?_
  refine ite_congr rfl (fun c1_ => ?_) (fun c1_ => ?_)
  · refine (R_iload_n zf293_80 rfl rfl).trans ?_
    exact R_ireturn_i zf293_81 zr_293
  · refine (R_iload_n zf293_46 rfl rfl).trans ?_
    refine (R_iload_n zf293_47 rfl rfl).trans ?_
    refine (R_callI zf293_48 zo_293 zsl_12_229 (by rw [zr_192]; rfl) zl_192 (Nat.le_of_ble_eq_true rfl) rfl rfl (Nat.le_of_ble_eq_true rfl) (Nat.le_of_ble_eq_true rfl) (es := [.inl x0, .inl x2]) rfl rfl).trans ?_
    refine congrArg (cI _) (funext fun a3_ => funext fun h2_ => ?_)
    refine (R_if_ne (t := 74) zf293_51 rfl rfl).trans ?_
    refine ite_congr rfl (fun c4_ => ?_) (fun c4_ => ?_)
    · refine (R_iinc (ls' := [.inr (.inr (.inl 97)), .inl x0, .inl x1, .inl (wI (x2 + 1))]) zf293_74 rfl rfl rfl).trans ?_
      refine (R_goto (t := 38) zf293_77 rfl).trans ?_
      rfl
    · refine (R_iload_n zf293_54 rfl rfl).trans ?_
      refine (R_iconst zf293_55 zw_m1 rfl).trans ?_
      refine (R_icmp_eq (t := 72) zf293_56 rfl rfl).trans ?_
      refine ite_congr rfl (fun c5_ => ?_) (fun c5_ => ?_)
      · refine (R_iload_n zf293_72 rfl rfl).trans ?_
        refine (R_istore_n (ls' := [.inr (.inr (.inl 97)), .inl x0, .inl x2, .inl x2]) zf293_73 (Nat.le_of_ble_eq_true rfl) rfl rfl).trans ?_
        refine (R_iinc (ls' := [.inr (.inr (.inl 97)), .inl x0, .inl x2, .inl (wI (x2 + 1))]) zf293_74 rfl rfl rfl).trans ?_
        refine (R_goto (t := 38) zf293_77 rfl).trans ?_
        rfl
      · refine (R_aload_n zf293_59 rfl zlt_97 rfl).trans ?_
        refine (R_iload_n zf293_60 rfl rfl).trans ?_
        refine (R_vcallI zf293_61 zo_293 zvl_12_511 (by rw [zr_291]; rfl) zl_291 (Nat.le_of_ble_eq_true rfl) rfl rfl (Nat.le_of_ble_eq_true rfl) (Nat.le_of_ble_eq_true rfl) (es := [.inr (.inr (.inl 97)), .inl x2, vU, vU, vU]) rfl rfl zk1_97 zo_291).trans ?_
        refine congrArg (cI _) (funext fun a7_ => funext fun h6_ => ?_)
        refine (R_aload_n zf293_64 rfl zlt_97 rfl).trans ?_
        refine (R_iload_n zf293_65 rfl rfl).trans ?_
        refine (R_vcallI zf293_66 zo_293 zvl_12_511 (by rw [zr_291]; rfl) zl_291 (Nat.le_of_ble_eq_true rfl) rfl rfl (Nat.le_of_ble_eq_true rfl) (Nat.le_of_ble_eq_true rfl) (es := [.inr (.inr (.inl 97)), .inl x1, vU, vU, vU]) rfl rfl zk1_97 zo_291).trans ?_
        refine congrArg (cI _) (funext fun a9_ => funext fun h8_ => ?_)
        refine (R_icmp_le (t := 74) zf293_69 rfl rfl).trans ?_
        refine ite_congr rfl (fun c10_ => ?_) (fun c10_ => ?_)
        · refine (R_iinc (ls' := [.inr (.inr (.inl 97)), .inl x0, .inl x1, .inl (wI (x2 + 1))]) zf293_74 rfl rfl rfl).trans ?_
          refine (R_goto (t := 38) zf293_77 rfl).trans ?_
          rfl
        · refine (R_iload_n zf293_72 rfl rfl).trans ?_
          refine (R_istore_n (ls' := [.inr (.inr (.inl 97)), .inl x0, .inl x2, .inl x2]) zf293_73 (Nat.le_of_ble_eq_true rfl) rfl rfl).trans ?_
          refine (R_iinc (ls' := [.inr (.inr (.inl 97)), .inl x0, .inl x2, .inl (wI (x2 + 1))]) zf293_74 rfl rfl rfl).trans ?_
          refine (R_goto (t := 38) zf293_77 rfl).trans ?_
          rfl
-- CannonPostModel.leastHay([I)I at 0
theorem q296_0 (d : Nat) (h : MH) : Run d 296 0 [.inr (.inr (.inl 97)), .inr (.inr (.inl 111)), vU, vU] [] h = Run d 296 5 [.inr (.inr (.inl 97)), .inr (.inr (.inl 111)), .inl 9, .inl 0] [] h := by
  refine (R_bipush zf296_0 zb_9 rfl).trans ?_
  refine (R_istore_n (ls' := [.inr (.inr (.inl 97)), .inr (.inr (.inl 111)), .inl 9, vU]) zf296_2 (Nat.le_of_ble_eq_true rfl) rfl rfl).trans ?_
  refine (R_iconst zf296_3 zw_0 rfl).trans ?_
  refine (R_istore_n (ls' := [.inr (.inr (.inl 97)), .inr (.inr (.inl 111)), .inl 9, .inl 0]) zf296_4 (Nat.le_of_ble_eq_true rfl) rfl rfl).trans ?_
  rfl
-- CannonPostModel.goHour([I)V at 0
theorem q247_0_1 (d : Nat) (h : MH) : Run (d + 1) 247 0 [.inr (.inr (.inl 97)), .inr (.inr (.inl 111)), vU] [] h = Run (d + 1) 247 2 [.inr (.inr (.inl 97)), .inr (.inr (.inl 111)), .inl 0] [] h := by
  refine (R_iconst zf247_0 zw_0 rfl).trans ?_
  refine (R_istore_n (ls' := [.inr (.inr (.inl 97)), .inr (.inr (.inl 111)), .inl 0]) zf247_1 (Nat.le_of_ble_eq_true rfl) rfl rfl).trans ?_
  rfl
-- CannonPostModel.nearest(I)I at 4
theorem q298_4 (d : Nat) (x0 : Int) (x1 : Int) (x2 : Int) (h : MH) : Run (d + 1) 298 4 [.inr (.inr (.inl 97)), .inl x0, .inl x1, .inl x2] [] h = (if (h 97 26) ≤ x2 then some (some (.inl x1), h) else (cI (Run d 234 0 [.inr (.inr (.inl 97)), .inl x2] [] h) fun a3_ h2_ => (cI (Run d 234 0 [.inr (.inr (.inl 97)), .inl x1] [] h2_) fun a5_ h4_ => (if 0 ≤ (cmpL (abL (wL (a3_ - x0))) (abL (wL (a5_ - x0)))) then Run (d + 1) 298 4 [.inr (.inr (.inl 97)), .inl x0, .inl x1, .inl (wI (x2 + 1))] [] h4_ else Run (d + 1) 298 4 [.inr (.inr (.inl 97)), .inl x0, .inl x2, .inl (wI (x2 + 1))] [] h4_)))) := by
  refine (R_iload_n zf298_4 rfl rfl).trans ?_
  refine (R_aload_n zf298_5 rfl zlt_97 rfl).trans ?_
  refine (R_getI zf298_6 zo_298 zfl_12_294 zk1_97 zft_12_26 rfl).trans ?_
  refine (R_icmp_ge (t := 52) zf298_9 rfl rfl).trans ?_
  refine ite_congr rfl (fun c1_ => ?_) (fun c1_ => ?_)
  · refine (R_iload_n zf298_52 rfl rfl).trans ?_
    exact R_ireturn_i zf298_53 zr_298
  · refine (R_aload_n zf298_12 rfl zlt_97 rfl).trans ?_
    refine (R_iload_n zf298_13 rfl rfl).trans ?_
    refine (R_vcallI zf298_14 zo_298 zvl_12_326 (by rw [zr_234]; rfl) zl_234 (Nat.le_of_ble_eq_true rfl) rfl rfl (Nat.le_of_ble_eq_true rfl) (Nat.le_of_ble_eq_true rfl) (es := [.inr (.inr (.inl 97)), .inl x2]) rfl rfl zk1_97 zo_234).trans ?_
    refine congrArg (cI _) (funext fun a3_ => funext fun h2_ => ?_)
    refine (R_i2l zf298_17 rfl).trans ?_
    refine (R_iload_n zf298_18 rfl rfl).trans ?_
    refine (R_i2l zf298_19 rfl).trans ?_
    refine (R_lsub zf298_20 rfl).trans ?_
    refine (R_mabsL zf298_21 zo_298 zsl_12_521 zml_12_521 zna_12_521 (Nat.le_of_ble_eq_true rfl) rfl).trans ?_
    refine (R_aload_n zf298_24 rfl zlt_97 rfl).trans ?_
    refine (R_iload_n zf298_25 rfl rfl).trans ?_
    refine (R_vcallI zf298_26 zo_298 zvl_12_326 (by rw [zr_234]; rfl) zl_234 (Nat.le_of_ble_eq_true rfl) rfl rfl (Nat.le_of_ble_eq_true rfl) (Nat.le_of_ble_eq_true rfl) (es := [.inr (.inr (.inl 97)), .inl x1]) rfl rfl zk1_97 zo_234).trans ?_
    refine congrArg (cI _) (funext fun a5_ => funext fun h4_ => ?_)
    refine (R_i2l zf298_29 rfl).trans ?_
    refine (R_iload_n zf298_30 rfl rfl).trans ?_
    refine (R_i2l zf298_31 rfl).trans ?_
    refine (R_lsub zf298_32 rfl).trans ?_
    refine (R_mabsL zf298_33 zo_298 zsl_12_521 zml_12_521 zna_12_521 (Nat.le_of_ble_eq_true rfl) rfl).trans ?_
    refine (R_lcmp zf298_36 rfl).trans ?_
    refine (R_if_ge (t := 44) zf298_37 rfl rfl).trans ?_
    refine ite_congr rfl (fun c6_ => ?_) (fun c6_ => ?_)
    · refine (R_iload_n zf298_44 rfl rfl).trans ?_
      refine (R_istore_n (ls' := [.inr (.inr (.inl 97)), .inl x0, .inl x1, .inl x2]) zf298_45 (Nat.le_of_ble_eq_true rfl) rfl rfl).trans ?_
      refine (R_iinc (ls' := [.inr (.inr (.inl 97)), .inl x0, .inl x1, .inl (wI (x2 + 1))]) zf298_46 rfl rfl rfl).trans ?_
      refine (R_goto (t := 4) zf298_49 rfl).trans ?_
      rfl
    · refine (R_iload_n zf298_40 rfl rfl).trans ?_
      refine (R_goto (t := 45) zf298_41 rfl).trans ?_
      refine (R_istore_n (ls' := [.inr (.inr (.inl 97)), .inl x0, .inl x2, .inl x2]) zf298_45 (Nat.le_of_ble_eq_true rfl) rfl rfl).trans ?_
      refine (R_iinc (ls' := [.inr (.inr (.inl 97)), .inl x0, .inl x2, .inl (wI (x2 + 1))]) zf298_46 rfl rfl rfl).trans ?_
      refine (R_goto (t := 4) zf298_49 rfl).trans ?_
      rfl
-- CannonPostModel.copy([I[I)V at 12
theorem q256_12_1 (d : Nat) (x0 : Int) (x1 : Int) (h : MH) : Run d 256 12 [.inr (.inr (.inl 110)), .inr (.inr (.inl 119)), .inl x0, .inl x1] [] h = (if x0 ≤ x1 then some (none, h) else (if 0 ≤ x1 ∧ x1 < 277 then (if 0 ≤ x1 ∧ x1 < 277 then Run d 256 12 [.inr (.inr (.inl 110)), .inr (.inr (.inl 119)), .inl x0, .inl (wI (x1 + 1))] [] (up h 119 x1.toNat (h 110 x1.toNat)) else none) else none)) := by
  refine (R_iload_n zf256_12 rfl rfl).trans ?_
  refine (R_iload_n zf256_13 rfl rfl).trans ?_
  refine (R_icmp_ge (t := 29) zf256_14 rfl rfl).trans ?_
  refine ite_congr rfl (fun c1_ => ?_) (fun c1_ => ?_)
  · exact R_return zf256_29 zr_256
  · refine (R_aload_n zf256_17 rfl zlt_119 rfl).trans ?_
    refine (R_iload_n zf256_18 rfl rfl).trans ?_
    refine (R_aload_n zf256_19 rfl zlt_110 rfl).trans ?_
    refine (R_iload_n zf256_20 rfl rfl).trans ?_
    refine (R_iald zf256_21 zk_110 rfl).trans ?_
    refine ite_congr rfl (fun c2_ => ?_) (fun _ => rfl)
    refine (R_iast zf256_22 zk_119 rfl).trans ?_
    refine ite_congr rfl (fun c3_ => ?_) (fun _ => rfl)
    refine (R_iinc (ls' := [.inr (.inr (.inl 110)), .inr (.inr (.inl 119)), .inl x0, .inl (wI (x1 + 1))]) zf256_23 rfl rfl rfl).trans ?_
    refine (R_goto (t := 12) zf256_26 rfl).trans ?_
    rfl
-- CannonPostModel.copy([I[I)V at 12
theorem q256_12_2 (d : Nat) (x0 : Int) (x1 : Int) (h : MH) : Run d 256 12 [.inr (.inr (.inl 119)), .inr (.inr (.inl 110)), .inl x0, .inl x1] [] h = (if x0 ≤ x1 then some (none, h) else (if 0 ≤ x1 ∧ x1 < 277 then (if 0 ≤ x1 ∧ x1 < 277 then Run d 256 12 [.inr (.inr (.inl 119)), .inr (.inr (.inl 110)), .inl x0, .inl (wI (x1 + 1))] [] (up h 110 x1.toNat (h 119 x1.toNat)) else none) else none)) := by
  refine (R_iload_n zf256_12 rfl rfl).trans ?_
  refine (R_iload_n zf256_13 rfl rfl).trans ?_
  refine (R_icmp_ge (t := 29) zf256_14 rfl rfl).trans ?_
  refine ite_congr rfl (fun c1_ => ?_) (fun c1_ => ?_)
  · exact R_return zf256_29 zr_256
  · refine (R_aload_n zf256_17 rfl zlt_110 rfl).trans ?_
    refine (R_iload_n zf256_18 rfl rfl).trans ?_
    refine (R_aload_n zf256_19 rfl zlt_119 rfl).trans ?_
    refine (R_iload_n zf256_20 rfl rfl).trans ?_
    refine (R_iald zf256_21 zk_119 rfl).trans ?_
    refine ite_congr rfl (fun c2_ => ?_) (fun _ => rfl)
    refine (R_iast zf256_22 zk_110 rfl).trans ?_
    refine ite_congr rfl (fun c3_ => ?_) (fun _ => rfl)
    refine (R_iinc (ls' := [.inr (.inr (.inl 119)), .inr (.inr (.inl 110)), .inl x0, .inl (wI (x1 + 1))]) zf256_23 rfl rfl rfl).trans ?_
    refine (R_goto (t := 12) zf256_26 rfl).trans ?_
    rfl
-- CannonPost$LeagueReader.readClauses()Z at 39
theorem q6_39 (d : Nat) (x0 : Int) (h : MH) : Run (d + 1) 6 39 [.inr (.inr (.inl 3)), .inl x0] [] h = (if 240 < x0 then some (some (.inl 0), h) else (cI (Run d 7 0 [.inr (.inr (.inl 3)), vU, vU] [] h) fun a3_ h2_ => (if ¬ a3_ = 0 then (cI (Run d 8 0 [.inr (.inr (.inl 1))] [] h2_) fun a6_ h5_ => (if ¬ a6_ = 0 then (cI (Run d 21 0 [.inr (.inr (.inl 1)), .inl 59] [] h5_) fun a9_ h8_ => (if ¬ a9_ = 0 then Run (d + 1) 6 39 [.inr (.inr (.inl 3)), .inl (wI (x0 + 1))] [] h8_ else some (some (.inl 0), h8_))) else (cI (Run d 17 0 [.inr (.inr (.inl 4)), vU, vU] [] h5_) fun a12_ h11_ => (if a12_ = 0 ∨ a12_ = 1 then some (some (.inl a12_), h11_) else none)))) else some (some (.inl 0), h2_)))) := by
  refine (R_iload_n zf6_39 rfl rfl).trans ?_
  refine (R_sipush zf6_40 zs_240 rfl).trans ?_
  refine (R_icmp_gt (t := 93) zf6_43 rfl rfl).trans ?_
  refine ite_congr rfl (fun c1_ => ?_) (fun c1_ => ?_)
  · refine (R_iconst zf6_93 zw_0 rfl).trans ?_
    exact R_ireturn zf6_94 (by rw [zr_6]; rfl)
  · refine (R_aload_n zf6_46 rfl zlt_3 rfl).trans ?_
    refine (R_vcallI zf6_47 zo_6 zvl_6_55 (by rw [zr_7]; rfl) zl_7 (Nat.le_of_ble_eq_true rfl) rfl rfl (Nat.le_of_ble_eq_true rfl) (Nat.le_of_ble_eq_true rfl) (es := [.inr (.inr (.inl 3)), vU, vU]) rfl rfl zk1_3 zo_7).trans ?_
    refine congrArg (cI _) (funext fun a3_ => funext fun h2_ => ?_)
    refine (R_if_ne (t := 55) zf6_50 rfl rfl).trans ?_
    refine ite_congr rfl (fun c4_ => ?_) (fun c4_ => ?_)
    · refine (R_aload_n zf6_55 rfl zlt_3 rfl).trans ?_
      refine (R_getR zf6_56 zo_6 zfl_6_18 zk1_3 zft_6_1 zmr_3_1 rfl).trans ?_
      refine (R_vcallI zf6_59 zo_6 zvl_6_58 (by rw [zr_8]; rfl) zl_8 (Nat.le_of_ble_eq_true rfl) rfl rfl (Nat.le_of_ble_eq_true rfl) (Nat.le_of_ble_eq_true rfl) (es := [.inr (.inr (.inl 1))]) rfl rfl zk1_1 zo_8).trans ?_
      refine congrArg (cI _) (funext fun a6_ => funext fun h5_ => ?_)
      refine (R_if_ne (t := 73) zf6_62 rfl rfl).trans ?_
      refine ite_congr rfl (fun c7_ => ?_) (fun c7_ => ?_)
      · refine (R_aload_n zf6_73 rfl zlt_3 rfl).trans ?_
        refine (R_getR zf6_74 zo_6 zfl_6_18 zk1_3 zft_6_1 zmr_3_1 rfl).trans ?_
        refine (R_bipush zf6_77 zb_59 rfl).trans ?_
        refine (R_vcallI zf6_79 zo_6 zvl_6_65 (by rw [zr_21]; rfl) zl_21 (Nat.le_of_ble_eq_true rfl) rfl rfl (Nat.le_of_ble_eq_true rfl) (Nat.le_of_ble_eq_true rfl) (es := [.inr (.inr (.inl 1)), .inl 59]) rfl rfl zk1_1 zo_21).trans ?_
        refine congrArg (cI _) (funext fun a9_ => funext fun h8_ => ?_)
        refine (R_if_ne (t := 87) zf6_82 rfl rfl).trans ?_
        refine ite_congr rfl (fun c10_ => ?_) (fun c10_ => ?_)
        · refine (R_iinc (ls' := [.inr (.inr (.inl 3)), .inl (wI (x0 + 1))]) zf6_87 rfl rfl rfl).trans ?_
          refine (R_goto (t := 39) zf6_90 rfl).trans ?_
          rfl
        · refine (R_iconst zf6_85 zw_0 rfl).trans ?_
          exact R_ireturn zf6_86 (by rw [zr_6]; rfl)
      · refine (R_aload_n zf6_65 rfl zlt_3 rfl).trans ?_
        refine (R_getR zf6_66 zo_6 zfl_6_12 zk1_3 zft_6_0 zmr_3_0 rfl).trans ?_
        refine (R_vcallI zf6_69 zo_6 zvl_6_62 (by rw [zr_17]; rfl) zl_17 (Nat.le_of_ble_eq_true rfl) rfl rfl (Nat.le_of_ble_eq_true rfl) (Nat.le_of_ble_eq_true rfl) (es := [.inr (.inr (.inl 4)), vU, vU]) rfl rfl zk1_4 zo_17).trans ?_
        refine congrArg (cI _) (funext fun a12_ => funext fun h11_ => ?_)
        exact R_ireturn_z zf6_72 zr_6
    · refine (R_iconst zf6_53 zw_0 rfl).trans ?_
      exact R_ireturn zf6_54 (by rw [zr_6]; rfl)
-- CannonPost$LawReader.readClause()Z at 0
theorem q23_0 (d : Nat) (h : MH) : Run (d + 1) 23 0 [.inr (.inr (.inl 5)), vU, vU, vU] [] h = (cI (Run d 21 0 [.inr (.inr (.inl 1)), .inl 121] [] h) fun a2_ h1_ => (if a2_ = 0 then some (some (.inl 0), h1_) else (cI (Run d 21 0 [.inr (.inr (.inl 1)), .inl 58] [] h1_) fun a5_ h4_ => (if ¬ a5_ = 0 then (cI (Run d 8 0 [.inr (.inr (.inl 1))] [] h4_) fun a8_ h7_ => (if a8_ = 33 then Run (d + 1) 23 51 [.inr (.inr (.inl 5)), .inl a8_, vU, vU] [.inl 0] h7_ else (if a8_ = 40 then Run (d + 1) 23 51 [.inr (.inr (.inl 5)), .inl a8_, vU, vU] [.inl 0] h7_ else Run (d + 1) 23 51 [.inr (.inr (.inl 5)), .inl a8_, vU, vU] [.inl 1] h7_))) else some (some (.inl 0), h4_))))) := by
  refine (R_aload_n zf23_0 rfl zlt_5 rfl).trans ?_
  refine (R_getR zf23_1 zo_23 zfl_3_17 zk1_5 zft_3_2 zmr_5_2 rfl).trans ?_
  refine (R_bipush zf23_4 zb_121 rfl).trans ?_
  refine (R_vcallI zf23_6 zo_23 zvl_3_36 (by rw [zr_21]; rfl) zl_21 (Nat.le_of_ble_eq_true rfl) rfl rfl (Nat.le_of_ble_eq_true rfl) (Nat.le_of_ble_eq_true rfl) (es := [.inr (.inr (.inl 1)), .inl 121]) rfl rfl zk1_1 zo_21).trans ?_
  refine congrArg (cI _) (funext fun a2_ => funext fun h1_ => ?_)
  refine (R_if_eq (t := 24) zf23_9 rfl rfl).trans ?_
  refine ite_congr rfl (fun c3_ => ?_) (fun c3_ => ?_)
  · refine (R_iconst zf23_24 zw_0 rfl).trans ?_
    exact R_ireturn zf23_25 (by rw [zr_23]; rfl)
  · refine (R_aload_n zf23_12 rfl zlt_5 rfl).trans ?_
    refine (R_getR zf23_13 zo_23 zfl_3_17 zk1_5 zft_3_2 zmr_5_2 rfl).trans ?_
    refine (R_bipush zf23_16 zb_58 rfl).trans ?_
    refine (R_vcallI zf23_18 zo_23 zvl_3_36 (by rw [zr_21]; rfl) zl_21 (Nat.le_of_ble_eq_true rfl) rfl rfl (Nat.le_of_ble_eq_true rfl) (Nat.le_of_ble_eq_true rfl) (es := [.inr (.inr (.inl 1)), .inl 58]) rfl rfl zk1_1 zo_21).trans ?_
    refine congrArg (cI _) (funext fun a5_ => funext fun h4_ => ?_)
    refine (R_if_ne (t := 26) zf23_21 rfl rfl).trans ?_
    refine ite_congr rfl (fun c6_ => ?_) (fun c6_ => ?_)
    · refine (R_aload_n zf23_26 rfl zlt_5 rfl).trans ?_
      refine (R_getR zf23_27 zo_23 zfl_3_17 zk1_5 zft_3_2 zmr_5_2 rfl).trans ?_
      refine (R_vcallI zf23_30 zo_23 zvl_3_32 (by rw [zr_8]; rfl) zl_8 (Nat.le_of_ble_eq_true rfl) rfl rfl (Nat.le_of_ble_eq_true rfl) (Nat.le_of_ble_eq_true rfl) (es := [.inr (.inr (.inl 1))]) rfl rfl zk1_1 zo_8).trans ?_
      refine congrArg (cI _) (funext fun a8_ => funext fun h7_ => ?_)
      refine (R_istore_n (ls' := [.inr (.inr (.inl 5)), .inl a8_, vU, vU]) zf23_33 (Nat.le_of_ble_eq_true rfl) rfl rfl).trans ?_
      refine (R_iload_n zf23_34 rfl rfl).trans ?_
      refine (R_bipush zf23_35 zb_33 rfl).trans ?_
      refine (R_icmp_eq (t := 50) zf23_37 rfl rfl).trans ?_
      refine ite_congr rfl (fun c9_ => ?_) (fun c9_ => ?_)
      · refine (R_iconst zf23_50 zw_0 rfl).trans ?_
        rfl
      · refine (R_iload_n zf23_40 rfl rfl).trans ?_
        refine (R_bipush zf23_41 zb_40 rfl).trans ?_
        refine (R_icmp_eq (t := 50) zf23_43 rfl rfl).trans ?_
        refine ite_congr rfl (fun c10_ => ?_) (fun c10_ => ?_)
        · refine (R_iconst zf23_50 zw_0 rfl).trans ?_
          rfl
        · refine (R_iconst zf23_46 zw_1 rfl).trans ?_
          refine (R_goto (t := 51) zf23_47 rfl).trans ?_
          rfl
    · refine (R_iconst zf23_24 zw_0 rfl).trans ?_
      exact R_ireturn zf23_25 (by rw [zr_23]; rfl)
-- CannonPost$Tape.next()I at 0
theorem q8_0 (d : Nat) (h : MH) : Run d 8 0 [.inr (.inr (.inl 1))] [] h = (if (h 1 1) ≤ (h 1 2) then (if (h 1 1) ≤ (h 1 2) then some (some (.inl 0), h) else (if 0 ≤ (h 1 2) ∧ (h 1 2) < 240 then some (some (.inl (h 15 (h 1 2).toNat)), h) else none)) else (if 0 ≤ (h 1 2) ∧ (h 1 2) < 240 then (if ¬ (h 15 (h 1 2).toNat) = 32 then (if (h 1 1) ≤ (h 1 2) then some (some (.inl 0), h) else (if 0 ≤ (h 1 2) ∧ (h 1 2) < 240 then some (some (.inl (h 15 (h 1 2).toNat)), h) else none)) else Run d 8 0 [.inr (.inr (.inl 1))] [] (up h 1 2 (wI ((h 1 2) + 1)))) else none)) := by
  refine (R_aload_n zf8_0 rfl zlt_1 rfl).trans ?_
  refine (R_getI zf8_1 zo_8 zfl_10_19 zk1_1 zft_10_2 rfl).trans ?_
  refine (R_aload_n zf8_4 rfl zlt_1 rfl).trans ?_
  refine (R_getI zf8_5 zo_8 zfl_10_15 zk1_1 zft_10_1 rfl).trans ?_
  refine (R_icmp_ge (t := 38) zf8_8 rfl rfl).trans ?_
  refine ite_congr rfl (fun c1_ => ?_) (fun c1_ => ?_)
  · refine (R_aload_n zf8_38 rfl zlt_1 rfl).trans ?_
    refine (R_getI zf8_39 zo_8 zfl_10_19 zk1_1 zft_10_2 rfl).trans ?_
    refine (R_aload_n zf8_42 rfl zlt_1 rfl).trans ?_
    refine (R_getI zf8_43 zo_8 zfl_10_15 zk1_1 zft_10_1 rfl).trans ?_
    refine (R_icmp_ge (t := 61) zf8_46 rfl rfl).trans ?_
    refine ite_congr rfl (fun c2_ => ?_) (fun c2_ => ?_)
    · refine (R_iconst zf8_61 zw_0 rfl).trans ?_
      exact R_ireturn_i zf8_62 zr_8
    · refine (R_aload_n zf8_49 rfl zlt_1 rfl).trans ?_
      refine (R_getR zf8_50 zo_8 zfl_10_11 zk1_1 zft_10_0 zmr_1_0 rfl).trans ?_
      refine (R_aload_n zf8_53 rfl zlt_1 rfl).trans ?_
      refine (R_getI zf8_54 zo_8 zfl_10_19 zk1_1 zft_10_2 rfl).trans ?_
      refine (R_bald zf8_57 zk_15 rfl).trans ?_
      refine ite_congr rfl (fun c3_ => ?_) (fun _ => rfl)
      refine (R_goto (t := 62) zf8_58 rfl).trans ?_
      exact R_ireturn_i zf8_62 zr_8
  · refine (R_aload_n zf8_11 rfl zlt_1 rfl).trans ?_
    refine (R_getR zf8_12 zo_8 zfl_10_11 zk1_1 zft_10_0 zmr_1_0 rfl).trans ?_
    refine (R_aload_n zf8_15 rfl zlt_1 rfl).trans ?_
    refine (R_getI zf8_16 zo_8 zfl_10_19 zk1_1 zft_10_2 rfl).trans ?_
    refine (R_bald zf8_19 zk_15 rfl).trans ?_
    refine ite_congr rfl (fun c4_ => ?_) (fun _ => rfl)
    refine (R_bipush zf8_20 zb_32 rfl).trans ?_
    refine (R_icmp_ne (t := 38) zf8_22 rfl rfl).trans ?_
    refine ite_congr rfl (fun c5_ => ?_) (fun c5_ => ?_)
    · refine (R_aload_n zf8_38 rfl zlt_1 rfl).trans ?_
      refine (R_getI zf8_39 zo_8 zfl_10_19 zk1_1 zft_10_2 rfl).trans ?_
      refine (R_aload_n zf8_42 rfl zlt_1 rfl).trans ?_
      refine (R_getI zf8_43 zo_8 zfl_10_15 zk1_1 zft_10_1 rfl).trans ?_
      refine (R_icmp_ge (t := 61) zf8_46 rfl rfl).trans ?_
      refine ite_congr rfl (fun c6_ => ?_) (fun c6_ => ?_)
      · refine (R_iconst zf8_61 zw_0 rfl).trans ?_
        exact R_ireturn_i zf8_62 zr_8
      · refine (R_aload_n zf8_49 rfl zlt_1 rfl).trans ?_
        refine (R_getR zf8_50 zo_8 zfl_10_11 zk1_1 zft_10_0 zmr_1_0 rfl).trans ?_
        refine (R_aload_n zf8_53 rfl zlt_1 rfl).trans ?_
        refine (R_getI zf8_54 zo_8 zfl_10_19 zk1_1 zft_10_2 rfl).trans ?_
        refine (R_bald zf8_57 zk_15 rfl).trans ?_
        refine ite_congr rfl (fun c7_ => ?_) (fun _ => rfl)
        refine (R_goto (t := 62) zf8_58 rfl).trans ?_
        exact R_ireturn_i zf8_62 zr_8
    · refine (R_aload_n zf8_25 rfl zlt_1 rfl).trans ?_
      refine (R_dup zf8_26 rfl rfl).trans ?_
      refine (R_getI zf8_27 zo_8 zfl_10_19 zk1_1 zft_10_2 rfl).trans ?_
      refine (R_iconst zf8_30 zw_1 rfl).trans ?_
      refine (R_iadd zf8_31 rfl).trans ?_
      refine (R_putI zf8_32 zo_8 zfl_10_19 zk1_1 zft_10_2 rfl).trans ?_
      refine (R_goto (t := 0) zf8_35 rfl).trans ?_
      rfl
-- CannonPost$Tape.take(C)Z at 0
theorem q21_0 (d : Nat) (x0 : Int) (h : MH) : Run (d + 1) 21 0 [.inr (.inr (.inl 1)), .inl x0] [] h = (cI (Run d 8 0 [.inr (.inr (.inl 1))] [] h) fun a2_ h1_ => (if a2_ = x0 then some (some (.inl 1), (up h1_ 1 2 (wI ((h1_ 1 2) + 1)))) else some (some (.inl 0), h1_))) := by
  refine (R_aload_n zf21_0 rfl zlt_1 rfl).trans ?_
  refine (R_vcallI zf21_1 zo_21 zvl_10_22 (by rw [zr_8]; rfl) zl_8 (Nat.le_of_ble_eq_true rfl) rfl rfl (Nat.le_of_ble_eq_true rfl) (Nat.le_of_ble_eq_true rfl) (es := [.inr (.inr (.inl 1))]) rfl rfl zk1_1 zo_8).trans ?_
  refine congrArg (cI _) (funext fun a2_ => funext fun h1_ => ?_)
  refine (R_iload_n zf21_4 rfl rfl).trans ?_
  refine (R_icmp_eq (t := 10) zf21_5 rfl rfl).trans ?_
  refine ite_congr rfl (fun c3_ => ?_) (fun c3_ => ?_)
  · refine (R_aload_n zf21_10 rfl zlt_1 rfl).trans ?_
    refine (R_dup zf21_11 rfl rfl).trans ?_
    refine (R_getI zf21_12 zo_21 zfl_10_19 zk1_1 zft_10_2 rfl).trans ?_
    refine (R_iconst zf21_15 zw_1 rfl).trans ?_
    refine (R_iadd zf21_16 rfl).trans ?_
    refine (R_putI zf21_17 zo_21 zfl_10_19 zk1_1 zft_10_2 rfl).trans ?_
    refine (R_iconst zf21_20 zw_1 rfl).trans ?_
    exact R_ireturn zf21_21 (by rw [zr_21]; rfl)
  · refine (R_iconst zf21_8 zw_0 rfl).trans ?_
    exact R_ireturn zf21_9 (by rw [zr_21]; rfl)
-- CannonPost$Planbook.readStep(I)Z at 0
theorem q39_0 (d : Nat) (x0 : Int) (h : MH) : Run (d + 1) 39 0 [.inr (.inr (.inl 7)), .inl x0] [] h = (cI (Run d 21 0 [.inr (.inr (.inl 1)), .inl 115] [] h) fun a2_ h1_ => (if a2_ = 0 then (cI (Run d 21 0 [.inr (.inr (.inl 1)), .inl 104] [] h1_) fun a5_ h4_ => (if a5_ = 0 then (cI (Run d 21 0 [.inr (.inr (.inl 1)), .inl 119] [] h4_) fun a8_ h7_ => (if a8_ = 0 then (cI (Run d 21 0 [.inr (.inr (.inl 1)), .inl 110] [] h7_) fun a11_ h10_ => (if a11_ = 0 then some (some (.inl 0), h10_) else (cI (Run d 40 0 [.inr (.inr (.inl 7)), .inl x0, .inl 3, .inl 9] [] h10_) fun a14_ h13_ => (if a14_ = 0 then some (some (.inl 0), h13_) else some (some (.inl 1), h13_))))) else (cI (Run d 40 0 [.inr (.inr (.inl 7)), .inl x0, .inl 2, .inl 1] [] h7_) fun a17_ h16_ => (if a17_ = 0 ∨ a17_ = 1 then some (some (.inl a17_), h16_) else none)))) else (cI (Run d 41 0 [.inr (.inr (.inl 7)), .inl x0, .inl 1] [] h4_) fun a19_ h18_ => (if a19_ = 0 ∨ a19_ = 1 then some (some (.inl a19_), h18_) else none)))) else (cI (Run d 40 0 [.inr (.inr (.inl 7)), .inl x0, .inl 0, .inl 1] [] h1_) fun a21_ h20_ => (if a21_ = 0 then some (some (.inl 0), h20_) else (cI (Run d 43 0 [.inr (.inr (.inl 7)), .inl x0, vU, vU] [] h20_) fun a24_ h23_ => (if a24_ = 0 then some (some (.inl 0), h23_) else some (some (.inl 1), h23_))))))) := by
  refine (R_aload_n zf39_0 rfl zlt_7 rfl).trans ?_
  refine (R_getR zf39_1 zo_39 zfl_8_23 zk1_7 zft_8_5 zmr_7_5 rfl).trans ?_
  refine (R_bipush zf39_4 zb_115 rfl).trans ?_
  refine (R_vcallI zf39_6 zo_39 zvl_8_57 (by rw [zr_21]; rfl) zl_21 (Nat.le_of_ble_eq_true rfl) rfl rfl (Nat.le_of_ble_eq_true rfl) (Nat.le_of_ble_eq_true rfl) (es := [.inr (.inr (.inl 1)), .inl 115]) rfl rfl zk1_1 zo_21).trans ?_
  refine congrArg (cI _) (funext fun a2_ => funext fun h1_ => ?_)
  refine (R_if_eq (t := 36) zf39_9 rfl rfl).trans ?_
  refine ite_congr rfl (fun c3_ => ?_) (fun c3_ => ?_)
  · refine (R_aload_n zf39_36 rfl zlt_7 rfl).trans ?_
    refine (R_getR zf39_37 zo_39 zfl_8_23 zk1_7 zft_8_5 zmr_7_5 rfl).trans ?_
    refine (R_bipush zf39_40 zb_104 rfl).trans ?_
    refine (R_vcallI zf39_42 zo_39 zvl_8_57 (by rw [zr_21]; rfl) zl_21 (Nat.le_of_ble_eq_true rfl) rfl rfl (Nat.le_of_ble_eq_true rfl) (Nat.le_of_ble_eq_true rfl) (es := [.inr (.inr (.inl 1)), .inl 104]) rfl rfl zk1_1 zo_21).trans ?_
    refine congrArg (cI _) (funext fun a5_ => funext fun h4_ => ?_)
    refine (R_if_eq (t := 55) zf39_45 rfl rfl).trans ?_
    refine ite_congr rfl (fun c6_ => ?_) (fun c6_ => ?_)
    · refine (R_aload_n zf39_55 rfl zlt_7 rfl).trans ?_
      refine (R_getR zf39_56 zo_39 zfl_8_23 zk1_7 zft_8_5 zmr_7_5 rfl).trans ?_
      refine (R_bipush zf39_59 zb_119 rfl).trans ?_
      refine (R_vcallI zf39_61 zo_39 zvl_8_57 (by rw [zr_21]; rfl) zl_21 (Nat.le_of_ble_eq_true rfl) rfl rfl (Nat.le_of_ble_eq_true rfl) (Nat.le_of_ble_eq_true rfl) (es := [.inr (.inr (.inl 1)), .inl 119]) rfl rfl zk1_1 zo_21).trans ?_
      refine congrArg (cI _) (funext fun a8_ => funext fun h7_ => ?_)
      refine (R_if_eq (t := 75) zf39_64 rfl rfl).trans ?_
      refine ite_congr rfl (fun c9_ => ?_) (fun c9_ => ?_)
      · refine (R_aload_n zf39_75 rfl zlt_7 rfl).trans ?_
        refine (R_getR zf39_76 zo_39 zfl_8_23 zk1_7 zft_8_5 zmr_7_5 rfl).trans ?_
        refine (R_bipush zf39_79 zb_110 rfl).trans ?_
        refine (R_vcallI zf39_81 zo_39 zvl_8_57 (by rw [zr_21]; rfl) zl_21 (Nat.le_of_ble_eq_true rfl) rfl rfl (Nat.le_of_ble_eq_true rfl) (Nat.le_of_ble_eq_true rfl) (es := [.inr (.inr (.inl 1)), .inl 110]) rfl rfl zk1_1 zo_21).trans ?_
        refine congrArg (cI _) (funext fun a11_ => funext fun h10_ => ?_)
        refine (R_if_eq (t := 102) zf39_84 rfl rfl).trans ?_
        refine ite_congr rfl (fun c12_ => ?_) (fun c12_ => ?_)
        · refine (R_iconst zf39_102 zw_0 rfl).trans ?_
          exact R_ireturn zf39_103 (by rw [zr_39]; rfl)
        · refine (R_aload_n zf39_87 rfl zlt_7 rfl).trans ?_
          refine (R_iload_n zf39_88 rfl rfl).trans ?_
          refine (R_iconst zf39_89 zw_3 rfl).trans ?_
          refine (R_bipush zf39_90 zb_9 rfl).trans ?_
          refine (R_vcallI zf39_92 zo_39 zvl_8_61 (by rw [zr_40]; rfl) zl_40 (Nat.le_of_ble_eq_true rfl) rfl rfl (Nat.le_of_ble_eq_true rfl) (Nat.le_of_ble_eq_true rfl) (es := [.inr (.inr (.inl 7)), .inl x0, .inl 3, .inl 9]) rfl rfl zk1_7 zo_40).trans ?_
          refine congrArg (cI _) (funext fun a14_ => funext fun h13_ => ?_)
          refine (R_if_eq (t := 102) zf39_95 rfl rfl).trans ?_
          refine ite_congr rfl (fun c15_ => ?_) (fun c15_ => ?_)
          · refine (R_iconst zf39_102 zw_0 rfl).trans ?_
            exact R_ireturn zf39_103 (by rw [zr_39]; rfl)
          · refine (R_iconst zf39_98 zw_1 rfl).trans ?_
            refine (R_goto (t := 103) zf39_99 rfl).trans ?_
            exact R_ireturn zf39_103 (by rw [zr_39]; rfl)
      · refine (R_aload_n zf39_67 rfl zlt_7 rfl).trans ?_
        refine (R_iload_n zf39_68 rfl rfl).trans ?_
        refine (R_iconst zf39_69 zw_2 rfl).trans ?_
        refine (R_iconst zf39_70 zw_1 rfl).trans ?_
        refine (R_vcallI zf39_71 zo_39 zvl_8_61 (by rw [zr_40]; rfl) zl_40 (Nat.le_of_ble_eq_true rfl) rfl rfl (Nat.le_of_ble_eq_true rfl) (Nat.le_of_ble_eq_true rfl) (es := [.inr (.inr (.inl 7)), .inl x0, .inl 2, .inl 1]) rfl rfl zk1_7 zo_40).trans ?_
        refine congrArg (cI _) (funext fun a17_ => funext fun h16_ => ?_)
        exact R_ireturn_z zf39_74 zr_39
    · refine (R_aload_n zf39_48 rfl zlt_7 rfl).trans ?_
      refine (R_iload_n zf39_49 rfl rfl).trans ?_
      refine (R_iconst zf39_50 zw_1 rfl).trans ?_
      refine (R_vcallI zf39_51 zo_39 zvl_8_68 (by rw [zr_41]; rfl) zl_41 (Nat.le_of_ble_eq_true rfl) rfl rfl (Nat.le_of_ble_eq_true rfl) (Nat.le_of_ble_eq_true rfl) (es := [.inr (.inr (.inl 7)), .inl x0, .inl 1]) rfl rfl zk1_7 zo_41).trans ?_
      refine congrArg (cI _) (funext fun a19_ => funext fun h18_ => ?_)
      exact R_ireturn_z zf39_54 zr_39
  · refine (R_aload_n zf39_12 rfl zlt_7 rfl).trans ?_
    refine (R_iload_n zf39_13 rfl rfl).trans ?_
    refine (R_iconst zf39_14 zw_0 rfl).trans ?_
    refine (R_iconst zf39_15 zw_1 rfl).trans ?_
    refine (R_vcallI zf39_16 zo_39 zvl_8_61 (by rw [zr_40]; rfl) zl_40 (Nat.le_of_ble_eq_true rfl) rfl rfl (Nat.le_of_ble_eq_true rfl) (Nat.le_of_ble_eq_true rfl) (es := [.inr (.inr (.inl 7)), .inl x0, .inl 0, .inl 1]) rfl rfl zk1_7 zo_40).trans ?_
    refine congrArg (cI _) (funext fun a21_ => funext fun h20_ => ?_)
    refine (R_if_eq (t := 34) zf39_19 rfl rfl).trans ?_
    refine ite_congr rfl (fun c22_ => ?_) (fun c22_ => ?_)
    · refine (R_iconst zf39_34 zw_0 rfl).trans ?_
      exact R_ireturn zf39_35 (by rw [zr_39]; rfl)
    · refine (R_aload_n zf39_22 rfl zlt_7 rfl).trans ?_
      refine (R_iload_n zf39_23 rfl rfl).trans ?_
      refine (R_vcallI zf39_24 zo_39 zvl_8_65 (by rw [zr_43]; rfl) zl_43 (Nat.le_of_ble_eq_true rfl) rfl rfl (Nat.le_of_ble_eq_true rfl) (Nat.le_of_ble_eq_true rfl) (es := [.inr (.inr (.inl 7)), .inl x0, vU, vU]) rfl rfl zk1_7 zo_43).trans ?_
      refine congrArg (cI _) (funext fun a24_ => funext fun h23_ => ?_)
      refine (R_if_eq (t := 34) zf39_27 rfl rfl).trans ?_
      refine ite_congr rfl (fun c25_ => ?_) (fun c25_ => ?_)
      · refine (R_iconst zf39_34 zw_0 rfl).trans ?_
        exact R_ireturn zf39_35 (by rw [zr_39]; rfl)
      · refine (R_iconst zf39_30 zw_1 rfl).trans ?_
        refine (R_goto (t := 35) zf39_31 rfl).trans ?_
        exact R_ireturn zf39_35 (by rw [zr_39]; rfl)
-- CannonPost$Planbook.hasRoom()Z at 0
theorem q58_0 (d : Nat) (h : MH) : Run d 58 0 [.inr (.inr (.inl 7))] [] h = (if 4 ≤ (h 7 1) then some (some (.inl 0), h) else some (some (.inl 1), h)) := by
  refine (R_aload_n zf58_0 rfl zlt_7 rfl).trans ?_
  refine (R_getI zf58_1 zo_58 zfl_8_27 zk1_7 zft_8_1 rfl).trans ?_
  refine (R_iconst zf58_4 zw_4 rfl).trans ?_
  refine (R_icmp_ge (t := 12) zf58_5 rfl rfl).trans ?_
  refine ite_congr rfl (fun c1_ => ?_) (fun c1_ => ?_)
  · refine (R_iconst zf58_12 zw_0 rfl).trans ?_
    exact R_ireturn zf58_13 (by rw [zr_58]; rfl)
  · refine (R_iconst zf58_8 zw_1 rfl).trans ?_
    refine (R_goto (t := 13) zf58_9 rfl).trans ?_
    exact R_ireturn zf58_13 (by rw [zr_58]; rfl)
-- CannonPost$Planbook.add()I at 0
theorem q59_0 (d : Nat) (h : MH) : Run (d + 1) 59 0 [.inr (.inr (.inl 7))] [] h = (cI (Run d 58 0 [.inr (.inr (.inl 7))] [] h) fun a2_ h1_ => (if ¬ a2_ = 0 then (if 0 ≤ (h1_ 7 1) ∧ (h1_ 7 1) < 4 then (if 0 ≤ ((cpy h1_ (h1_ 37) (33 + (h1_ 7 1).toNat) 0 0 64) 7 1) ∧ ((cpy h1_ (h1_ 37) (33 + (h1_ 7 1).toNat) 0 0 64) 7 1) < 4 then some (some (.inl (wI (((up (up (cpy h1_ (h1_ 37) (33 + (h1_ 7 1).toNat) 0 0 64) 31 ((cpy h1_ (h1_ 37) (33 + (h1_ 7 1).toNat) 0 0 64) 7 1).toNat ((cpy h1_ (h1_ 37) (33 + (h1_ 7 1).toNat) 0 0 64) 7 4)) 7 1 (wI (((up (cpy h1_ (h1_ 37) (33 + (h1_ 7 1).toNat) 0 0 64) 31 ((cpy h1_ (h1_ 37) (33 + (h1_ 7 1).toNat) 0 0 64) 7 1).toNat ((cpy h1_ (h1_ 37) (33 + (h1_ 7 1).toNat) 0 0 64) 7 4)) 7 1) + 1))) 7 1) - 1))), (up (up (cpy h1_ (h1_ 37) (33 + (h1_ 7 1).toNat) 0 0 64) 31 ((cpy h1_ (h1_ 37) (33 + (h1_ 7 1).toNat) 0 0 64) 7 1).toNat ((cpy h1_ (h1_ 37) (33 + (h1_ 7 1).toNat) 0 0 64) 7 4)) 7 1 (wI (((up (cpy h1_ (h1_ 37) (33 + (h1_ 7 1).toNat) 0 0 64) 31 ((cpy h1_ (h1_ 37) (33 + (h1_ 7 1).toNat) 0 0 64) 7 1).toNat ((cpy h1_ (h1_ 37) (33 + (h1_ 7 1).toNat) 0 0 64) 7 4)) 7 1) + 1)))) else none) else none) else some (some (.inl (-1)), h1_))) := by
  refine (R_aload_n zf59_0 rfl zlt_7 rfl).trans ?_
  refine (R_vcallI zf59_1 zo_59 zvl_8_31 (by rw [zr_58]; rfl) zl_58 (Nat.le_of_ble_eq_true rfl) rfl rfl (Nat.le_of_ble_eq_true rfl) (Nat.le_of_ble_eq_true rfl) (es := [.inr (.inr (.inl 7))]) rfl rfl zk1_7 zo_58).trans ?_
  refine congrArg (cI _) (funext fun a2_ => funext fun h1_ => ?_)
  refine (R_if_ne (t := 9) zf59_4 rfl rfl).trans ?_
  refine ite_congr rfl (fun c3_ => ?_) (fun c3_ => ?_)
  · refine (R_aload_n zf59_9 rfl zlt_7 rfl).trans ?_
    refine (R_getR zf59_10 zo_59 zfl_8_20 zk1_7 zft_8_3 zmr_7_3 rfl).trans ?_
    refine (R_iconst zf59_13 zw_0 rfl).trans ?_
    refine (R_aload_n zf59_14 rfl zlt_7 rfl).trans ?_
    refine (R_getR zf59_15 zo_59 zfl_8_17 zk1_7 zft_8_2 zmr_7_2 rfl).trans ?_
    refine (R_aload_n zf59_18 rfl zlt_7 rfl).trans ?_
    refine (R_getI zf59_19 zo_59 zfl_8_27 zk1_7 zft_8_1 rfl).trans ?_
    refine (R_aald zf59_22 zk_32 zmr_32_0 rfl).trans ?_
    refine ite_congr rfl (fun c4_ => ?_) (fun _ => rfl)
    refine (R_iconst zf59_23 zw_0 rfl).trans ?_
    refine (R_aload_n zf59_24 rfl zlt_7 rfl).trans ?_
    refine (R_getR zf59_25 zo_59 zfl_8_20 zk1_7 zft_8_3 zmr_7_3 rfl).trans ?_
    refine (R_len100 (v := 64) zf59_28 zk_37 rfl rfl).trans ?_
    refine ((R_acpy zf59_29 zo_59 zsl_8_35 zal_8_35 zk_37 (zgrid_33 _ (by omega)) (Nat.le_of_ble_eq_true rfl) rfl).trans (if_pos (by decide))).trans ?_
    refine (R_aload_n zf59_32 rfl zlt_7 rfl).trans ?_
    refine (R_getR zf59_33 zo_59 zfl_8_11 zk1_7 zft_8_0 zmr_7_0 rfl).trans ?_
    refine (R_aload_n zf59_36 rfl zlt_7 rfl).trans ?_
    refine (R_getI zf59_37 zo_59 zfl_8_27 zk1_7 zft_8_1 rfl).trans ?_
    refine (R_aload_n zf59_40 rfl zlt_7 rfl).trans ?_
    refine (R_getI zf59_41 zo_59 zfl_8_41 zk1_7 zft_8_4 rfl).trans ?_
    refine (R_iast zf59_44 zk_31 rfl).trans ?_
    refine ite_congr rfl (fun c5_ => ?_) (fun _ => rfl)
    refine (R_aload_n zf59_45 rfl zlt_7 rfl).trans ?_
    refine (R_dup zf59_46 rfl rfl).trans ?_
    refine (R_getI zf59_47 zo_59 zfl_8_27 zk1_7 zft_8_1 rfl).trans ?_
    refine (R_iconst zf59_50 zw_1 rfl).trans ?_
    refine (R_iadd zf59_51 rfl).trans ?_
    refine (R_putI zf59_52 zo_59 zfl_8_27 zk1_7 zft_8_1 rfl).trans ?_
    refine (R_aload_n zf59_55 rfl zlt_7 rfl).trans ?_
    refine (R_getI zf59_56 zo_59 zfl_8_27 zk1_7 zft_8_1 rfl).trans ?_
    refine (R_iconst zf59_59 zw_1 rfl).trans ?_
    refine (R_isub zf59_60 rfl).trans ?_
    exact R_ireturn_i zf59_61 zr_59
  · refine (R_iconst zf59_7 zw_m1 rfl).trans ?_
    exact R_ireturn_i zf59_8 zr_59
-- java/util/Arrays.fill([II)V at 0
theorem q48_0_1 (d : Nat) (x0 : Int) (h : MH) : Run d 48 0 [.inr (.inr (.inl 91)), .inl x0, vU, vU] [] h = Run d 48 5 [.inr (.inr (.inl 91)), .inl x0, .inl 0, .inl 37] [] h := by
  refine (R_iconst zf48_0 zw_0 rfl).trans ?_
  refine (R_istore_n (ls' := [.inr (.inr (.inl 91)), .inl x0, .inl 0, vU]) zf48_1 (Nat.le_of_ble_eq_true rfl) rfl rfl).trans ?_
  refine (R_aload_n zf48_2 rfl zlt_91 rfl).trans ?_
  refine (R_len100 (v := 37) zf48_3 zk_91 rfl rfl).trans ?_
  refine (R_istore_n (ls' := [.inr (.inr (.inl 91)), .inl x0, .inl 0, .inl 37]) zf48_4 (Nat.le_of_ble_eq_true rfl) rfl rfl).trans ?_
  rfl
-- CannonPost$League.firstPowder()I at 0
theorem q49_0 (d : Nat) (h : MH) : Run d 49 0 [.inr (.inr (.inl 2))] [] h = some (some (.inl (h 16 2)), h) := by
  refine (R_aload_n zf49_0 rfl zlt_2 rfl).trans ?_
  refine (R_getR zf49_1 zo_49 zfl_5_11 zk1_2 zft_5_0 zmr_2_0 rfl).trans ?_
  refine (R_iconst zf49_4 zw_2 rfl).trans ?_
  refine (R_ialdc zf49_5 zk_16 (by decide) rfl rfl).trans ?_
  exact R_ireturn_i zf49_6 zr_49
-- CannonPost$League.firstWind()I at 0
theorem q50_0 (d : Nat) (h : MH) : Run d 50 0 [.inr (.inr (.inl 2))] [] h = some (some (.inl (h 16 0)), h) := by
  refine (R_aload_n zf50_0 rfl zlt_2 rfl).trans ?_
  refine (R_getR zf50_1 zo_50 zfl_5_11 zk1_2 zft_5_0 zmr_2_0 rfl).trans ?_
  refine (R_iconst zf50_4 zw_0 rfl).trans ?_
  refine (R_ialdc zf50_5 zk_16 (by decide) rfl rfl).trans ?_
  exact R_ireturn_i zf50_6 zr_50
-- CannonPost$League.firstWindWay()I at 0
theorem q51_0 (d : Nat) (h : MH) : Run d 51 0 [.inr (.inr (.inl 2))] [] h = some (some (.inl (h 16 1)), h) := by
  refine (R_aload_n zf51_0 rfl zlt_2 rfl).trans ?_
  refine (R_getR zf51_1 zo_51 zfl_5_11 zk1_2 zft_5_0 zmr_2_0 rfl).trans ?_
  refine (R_iconst zf51_4 zw_1 rfl).trans ?_
  refine (R_ialdc zf51_5 zk_16 (by decide) rfl rfl).trans ?_
  exact R_ireturn_i zf51_6 zr_51
-- CannonPost$State.begin(LCannonPost$League;)V at 40
theorem q47_40 (d : Nat) (x0 : Int) (h : MH) : Run (d + 1) 47 40 [.inr (.inr (.inl 12)), .inr (.inr (.inl 2)), .inl x0] [] h = (if (h 2 3) ≤ x0 then Run (d + 1) 47 70 [.inr (.inr (.inl 12)), .inr (.inr (.inl 2)), .inl 0] [] h else (cI (Run d 52 0 [.inr (.inr (.inl 2)), .inl x0] [] h) fun a3_ h2_ => (if 0 ≤ (wI (21 + x0)) ∧ (wI (21 + x0)) < 37 then Run (d + 1) 47 40 [.inr (.inr (.inl 12)), .inr (.inr (.inl 2)), .inl (wI (x0 + 1))] [] (up h2_ 91 (wI (21 + x0)).toNat a3_) else none))) := by
  refine (R_iload_n zf47_40 rfl rfl).trans ?_
  refine (R_aload_n zf47_41 rfl zlt_2 rfl).trans ?_
  refine (R_getI zf47_42 zo_47 zfl_9_38 zk1_2 zft_5_3 rfl).trans ?_
  refine (R_icmp_ge (t := 68) zf47_45 rfl rfl).trans ?_
  refine ite_congr rfl (fun c1_ => ?_) (fun c1_ => ?_)
  · refine (R_iconst zf47_68 zw_0 rfl).trans ?_
    refine (R_istore_n (ls' := [.inr (.inr (.inl 12)), .inr (.inr (.inl 2)), .inl 0]) zf47_69 (Nat.le_of_ble_eq_true rfl) rfl rfl).trans ?_
    rfl
  · refine (R_aload_n zf47_48 rfl zlt_12 rfl).trans ?_
    refine (R_getR zf47_49 zo_47 zfl_9_15 zk1_12 zft_9_0 zmr_12_0 rfl).trans ?_
    refine (R_bipush zf47_52 zb_21 rfl).trans ?_
    refine (R_iload_n zf47_54 rfl rfl).trans ?_
    refine (R_iadd zf47_55 rfl).trans ?_
    refine (R_aload_n zf47_56 rfl zlt_2 rfl).trans ?_
    refine (R_iload_n zf47_57 rfl rfl).trans ?_
    refine (R_vcallI zf47_58 zo_47 zvl_9_42 (by rw [zr_52]; rfl) zl_52 (Nat.le_of_ble_eq_true rfl) rfl rfl (Nat.le_of_ble_eq_true rfl) (Nat.le_of_ble_eq_true rfl) (es := [.inr (.inr (.inl 2)), .inl x0]) rfl rfl zk1_2 zo_52).trans ?_
    refine congrArg (cI _) (funext fun a3_ => funext fun h2_ => ?_)
    refine (R_iast zf47_61 zk_91 rfl).trans ?_
    refine ite_congr rfl (fun c4_ => ?_) (fun _ => rfl)
    refine (R_iinc (ls' := [.inr (.inr (.inl 12)), .inr (.inr (.inl 2)), .inl (wI (x0 + 1))]) zf47_62 rfl rfl rfl).trans ?_
    refine (R_goto (t := 40) zf47_65 rfl).trans ?_
    rfl
-- java/util/Arrays.fill([II)V at 0
theorem q48_0_2 (d : Nat) (x0 : Int) (h : MH) : Run d 48 0 [.inr (.inr (.inl 39)), .inl x0, vU, vU] [] h = Run d 48 5 [.inr (.inr (.inl 39)), .inl x0, .inl 0, .inl 40] [] h := by
  refine (R_iconst zf48_0 zw_0 rfl).trans ?_
  refine (R_istore_n (ls' := [.inr (.inr (.inl 39)), .inl x0, .inl 0, vU]) zf48_1 (Nat.le_of_ble_eq_true rfl) rfl rfl).trans ?_
  refine (R_aload_n zf48_2 rfl zlt_39 rfl).trans ?_
  refine (R_len100 (v := 40) zf48_3 zk_39 rfl rfl).trans ?_
  refine (R_istore_n (ls' := [.inr (.inr (.inl 39)), .inl x0, .inl 0, .inl 40]) zf48_4 (Nat.le_of_ble_eq_true rfl) rfl rfl).trans ?_
  rfl
-- CannonPost$State.land(III)V at 53
theorem q88_53 (d : Nat) (x0 : Int) (x1 : Int) (x2 : Int) (h : MH) : Run d 88 53 [.inr (.inr (.inl 12)), .inl x0, .inl x1, .inl x2] [] h = (if 0 ≤ (wI (6 + x0)) ∧ (wI (6 + x0)) < 37 then (if 0 ≤ (wI (29 + x1)) ∧ (wI (29 + x1)) < 37 then (if 0 ≤ (wI (29 + x1)) ∧ (wI (29 + x1)) < 37 then some (none, (up (up h 91 (wI (6 + x0)).toNat x1) 91 (wI (29 + x1)).toNat (iOr ((up h 91 (wI (6 + x0)).toNat x1) 91 (wI (29 + x1)).toNat) x2))) else none) else none) else none) := by
  refine (R_aload_n zf88_53 rfl zlt_12 rfl).trans ?_
  refine (R_getR zf88_54 zo_88 zfl_9_15 zk1_12 zft_9_0 zmr_12_0 rfl).trans ?_
  refine (R_bipush zf88_57 zb_6 rfl).trans ?_
  refine (R_iload_n zf88_59 rfl rfl).trans ?_
  refine (R_iadd zf88_60 rfl).trans ?_
  refine (R_iload_n zf88_61 rfl rfl).trans ?_
  refine (R_iast zf88_62 zk_91 rfl).trans ?_
  refine ite_congr rfl (fun c1_ => ?_) (fun _ => rfl)
  refine (R_aload_n zf88_63 rfl zlt_12 rfl).trans ?_
  refine (R_getR zf88_64 zo_88 zfl_9_15 zk1_12 zft_9_0 zmr_12_0 rfl).trans ?_
  refine (R_bipush zf88_67 zb_29 rfl).trans ?_
  refine (R_iload_n zf88_69 rfl rfl).trans ?_
  refine (R_iadd zf88_70 rfl).trans ?_
  refine (R_dup2 zf88_71 rfl rfl rfl).trans ?_
  refine (R_iald zf88_72 zk_91 rfl).trans ?_
  refine ite_congr rfl (fun c2_ => ?_) (fun _ => rfl)
  refine (R_iload_n zf88_73 rfl rfl).trans ?_
  refine (R_ior zf88_74 rfl).trans ?_
  refine (R_iast zf88_75 zk_91 rfl).trans ?_
  refine ite_congr rfl (fun c3_ => ?_) (fun _ => rfl)
  exact R_return zf88_76 zr_88
-- CannonPost$State.passHour(I)V at 2
theorem q100_2 (d : Nat) (x0 : Int) (x1 : Int) (h : MH) : Run d 100 2 [.inr (.inr (.inl 12)), .inl x0, .inl x1] [] h = (if 5 ≤ x1 then (if ¬ (((up h 91 4 (wI ((h 91 4) + 1))) 91 4).tmod 4) = 0 then some (none, (up h 91 4 (wI ((h 91 4) + 1)))) else Run d 100 60 [.inr (.inr (.inl 12)), .inl x0, .inl 0] [] (up h 91 4 (wI ((h 91 4) + 1)))) else (if 0 ≤ (wI (16 + x1)) ∧ (wI (16 + x1)) < 37 then (if 0 ≤ (wI (16 + x1)) ∧ (wI (16 + x1)) < 37 then Run d 100 2 [.inr (.inr (.inl 12)), .inl x0, .inl (wI (x1 + 1))] [] (up h 91 (wI (16 + x1)).toNat (mx 0 (wI ((h 91 (wI (16 + x1)).toNat) - 1)))) else none) else none)) := by
  refine (R_iload_n zf100_2 rfl rfl).trans ?_
  refine (R_iconst zf100_3 zw_5 rfl).trans ?_
  refine (R_icmp_ge (t := 37) zf100_4 rfl rfl).trans ?_
  refine ite_congr rfl (fun c1_ => ?_) (fun c1_ => ?_)
  · refine (R_aload_n zf100_37 rfl zlt_12 rfl).trans ?_
    refine (R_getR zf100_38 zo_100 zfl_9_15 zk1_12 zft_9_0 zmr_12_0 rfl).trans ?_
    refine (R_iconst zf100_41 zw_4 rfl).trans ?_
    refine (R_dup2 zf100_42 rfl rfl rfl).trans ?_
    refine (R_ialdc zf100_43 zk_91 (by decide) rfl rfl).trans ?_
    refine (R_iconst zf100_44 zw_1 rfl).trans ?_
    refine (R_iadd zf100_45 rfl).trans ?_
    refine (R_iastc zf100_46 zk_91 (by decide) rfl rfl).trans ?_
    refine (R_aload_n zf100_47 rfl zlt_12 rfl).trans ?_
    refine (R_getR zf100_48 zo_100 zfl_9_15 zk1_12 zft_9_0 zmr_12_0 rfl).trans ?_
    refine (R_iconst zf100_51 zw_4 rfl).trans ?_
    refine (R_ialdc zf100_52 zk_91 (by decide) rfl rfl).trans ?_
    refine (R_iconst zf100_53 zw_4 rfl).trans ?_
    refine (R_irem zf100_54 (by decide) rfl).trans ?_
    refine (R_if_ne (t := 96) zf100_55 rfl rfl).trans ?_
    refine ite_congr rfl (fun c2_ => ?_) (fun c2_ => ?_)
    · exact R_return zf100_96 zr_100
    · refine (R_iconst zf100_58 zw_0 rfl).trans ?_
      refine (R_istore_n (ls' := [.inr (.inr (.inl 12)), .inl x0, .inl 0]) zf100_59 (Nat.le_of_ble_eq_true rfl) rfl rfl).trans ?_
      rfl
  · refine (R_aload_n zf100_7 rfl zlt_12 rfl).trans ?_
    refine (R_getR zf100_8 zo_100 zfl_9_15 zk1_12 zft_9_0 zmr_12_0 rfl).trans ?_
    refine (R_bipush zf100_11 zb_16 rfl).trans ?_
    refine (R_iload_n zf100_13 rfl rfl).trans ?_
    refine (R_iadd zf100_14 rfl).trans ?_
    refine (R_iconst zf100_15 zw_0 rfl).trans ?_
    refine (R_aload_n zf100_16 rfl zlt_12 rfl).trans ?_
    refine (R_getR zf100_17 zo_100 zfl_9_15 zk1_12 zft_9_0 zmr_12_0 rfl).trans ?_
    refine (R_bipush zf100_20 zb_16 rfl).trans ?_
    refine (R_iload_n zf100_22 rfl rfl).trans ?_
    refine (R_iadd zf100_23 rfl).trans ?_
    refine (R_iald zf100_24 zk_91 rfl).trans ?_
    refine ite_congr rfl (fun c3_ => ?_) (fun _ => rfl)
    refine (R_iconst zf100_25 zw_1 rfl).trans ?_
    refine (R_isub zf100_26 rfl).trans ?_
    refine (R_mmax zf100_27 zo_100 zsl_9_58 zml_9_58 zna_9_58 (Nat.le_of_ble_eq_true rfl) rfl).trans ?_
    refine (R_iast zf100_30 zk_91 rfl).trans ?_
    refine ite_congr rfl (fun c4_ => ?_) (fun _ => rfl)
    refine (R_iinc (ls' := [.inr (.inr (.inl 12)), .inl x0, .inl (wI (x1 + 1))]) zf100_31 rfl rfl rfl).trans ?_
    refine (R_goto (t := 2) zf100_34 rfl).trans ?_
    rfl
-- CannonPost.turned(J)J at 0
theorem q103_0 (d : Nat) (x0 : Int) (h : MH) : Run d 103 0 [.inr (.inl x0), vU] [] h = some (some (.inr (.inl (wL ((wL (x0 * 6364136223846793005)) + 1442695040888963407)))), h) := by
  refine (R_lload_n zf103_0 rfl rfl).trans ?_
  refine (R_ldc2_w zf103_1 zo_103 zll_11_304 rfl).trans ?_
  refine (R_lmul zf103_4 rfl).trans ?_
  refine (R_ldc2_w zf103_5 zo_103 zll_11_306 rfl).trans ?_
  refine (R_ladd zf103_8 rfl).trans ?_
  exact R_lreturn zf103_9 zr_103
-- CannonPost.drawn(JI)I at 0
theorem q104_0 (d : Nat) (x0 : Int) (x1 : Int) (h : MH) : Run d 104 0 [.inr (.inl x0), vU, .inl x1] [] h = (if 1 ≤ x1 then (if x1 = 0 then none else some (some (.inl (wI ((lUshr x0 33).tmod x1))), h)) else some (some (.inl 0), h)) := by
  refine (R_iload_n zf104_0 rfl rfl).trans ?_
  refine (R_iconst zf104_1 zw_1 rfl).trans ?_
  refine (R_icmp_ge (t := 9) zf104_2 rfl rfl).trans ?_
  refine ite_congr rfl (fun c1_ => ?_) (fun c1_ => ?_)
  · refine (R_lload_n zf104_9 rfl rfl).trans ?_
    refine (R_bipush zf104_10 zb_33 rfl).trans ?_
    refine (R_lushr zf104_12 rfl).trans ?_
    refine (R_iload_n zf104_13 rfl rfl).trans ?_
    refine (R_i2l zf104_14 rfl).trans ?_
    refine (R_lrem0 zf104_15 rfl).trans ?_
    refine ite_congr rfl (fun _ => rfl) (fun _ => ?_)
    refine (R_l2i zf104_16 rfl).trans ?_
    exact R_ireturn_i zf104_17 zr_104
  · refine (R_iconst zf104_5 zw_0 rfl).trans ?_
    refine (R_goto (t := 17) zf104_6 rfl).trans ?_
    exact R_ireturn_i zf104_17 zr_104
-- CannonPost.drawAheadOfHour(J)J at 38
theorem q102_38 (d : Nat) (x0 : Int) (z1 : MV) (hz1 : cat z1 = 1) (x2 : Int) (z3 : MV) (hz3 : cat z3 = 1) (z4 : MV) (hz4 : cat z4 = 1) (z5 : MV) (hz5 : cat z5 = 1) (z6 : MV) (hz6 : cat z6 = 1) (h : MH) : Run (d + 1) 102 38 [.inr (.inr (.inl 0)), .inr (.inl x0), z1, .inr (.inl x2), z3, z4, z5, z6] [] h = (cJ (Run d 103 0 [.inr (.inl x2), vU] [] h) fun a2_ h1_ => (cI (Run d 104 0 [.inr (.inl a2_), vU, .inl (h1_ 2 4)] [] h1_) fun a4_ h3_ => (cJ (Run d 103 0 [.inr (.inl a2_), vU] [] h3_) fun a6_ h5_ => (cI (Run d 104 0 [.inr (.inl a6_), vU, .inl 2] [] h5_) fun a8_ h7_ => (cJ (Run d 103 0 [.inr (.inl a6_), vU] [] h7_) fun a10_ h9_ => (cI (Run d 104 0 [.inr (.inl a10_), vU, .inl 20] [] h9_) fun a12_ h11_ => (cI (Run d 71 0 [.inr (.inr (.inl 0)), .inr (.inr (.inl 12)), .inl a4_, .inl (wI (a12_ + 1))] [] h11_) fun a14_ h13_ => (if a14_ = 0 then some (some (.inr (.inl a10_)), h13_) else (cI (Run d 105 0 [.inr (.inr (.inl 0)), .inr (.inr (.inl 12)), .inl a4_, vU, vU, vU] [] h13_) fun a17_ h16_ => (cI (Run d 78 0 [.inr (.inr (.inl 0)), .inr (.inr (.inl 12)), .inl a4_, .inl (wI (a12_ + 1)), .inl a8_, .inl a17_, vU, vU] [] h16_) fun a19_ h18_ => some (some (.inr (.inl a10_)), h18_))))))))))) := by
  refine (R_lload_n zf102_38 rfl rfl).trans ?_
  refine (R_callJ zf102_39 zo_102 zsl_11_293 zr_103 zl_103 (Nat.le_of_ble_eq_true rfl) rfl rfl (Nat.le_of_ble_eq_true rfl) (Nat.le_of_ble_eq_true rfl) (es := [.inr (.inl x2), vU]) rfl rfl).trans ?_
  refine congrArg (cJ _) (funext fun a2_ => funext fun h1_ => ?_)
  refine (R_lstore_n (ls' := [.inr (.inr (.inl 0)), .inr (.inl x0), z1, .inr (.inl a2_), vU, z4, z5, z6]) zf102_42 (Nat.le_of_ble_eq_true rfl) (st2_z rfl hz1 rfl) rfl).trans ?_
  refine (R_lload_n zf102_43 rfl rfl).trans ?_
  refine (R_aload_n zf102_44 rfl zlt_0 rfl).trans ?_
  refine (R_getR zf102_45 zo_102 zfl_11_19 zk1_0 zft_11_1 zmr_0_1 rfl).trans ?_
  refine (R_getI zf102_48 zo_102 zfl_11_205 zk1_2 zft_5_4 rfl).trans ?_
  refine (R_callI zf102_51 zo_102 zsl_11_296 (by rw [zr_104]; rfl) zl_104 (Nat.le_of_ble_eq_true rfl) rfl rfl (Nat.le_of_ble_eq_true rfl) (Nat.le_of_ble_eq_true rfl) (es := [.inr (.inl a2_), vU, .inl (h1_ 2 4)]) rfl rfl).trans ?_
  refine congrArg (cI _) (funext fun a4_ => funext fun h3_ => ?_)
  refine (R_istore (ls' := [.inr (.inr (.inl 0)), .inr (.inl x0), z1, .inr (.inl a2_), vU, .inl a4_, z5, z6]) zf102_54 (Nat.le_of_ble_eq_true rfl) rfl rfl).trans ?_
  refine (R_lload_n zf102_56 rfl rfl).trans ?_
  refine (R_callJ zf102_57 zo_102 zsl_11_293 zr_103 zl_103 (Nat.le_of_ble_eq_true rfl) rfl rfl (Nat.le_of_ble_eq_true rfl) (Nat.le_of_ble_eq_true rfl) (es := [.inr (.inl a2_), vU]) rfl rfl).trans ?_
  refine congrArg (cJ _) (funext fun a6_ => funext fun h5_ => ?_)
  refine (R_lstore_n (ls' := [.inr (.inr (.inl 0)), .inr (.inl x0), z1, .inr (.inl a6_), vU, .inl a4_, z5, z6]) zf102_60 (Nat.le_of_ble_eq_true rfl) (st2_z rfl hz1 rfl) rfl).trans ?_
  refine (R_lload_n zf102_61 rfl rfl).trans ?_
  refine (R_iconst zf102_62 zw_2 rfl).trans ?_
  refine (R_callI zf102_63 zo_102 zsl_11_296 (by rw [zr_104]; rfl) zl_104 (Nat.le_of_ble_eq_true rfl) rfl rfl (Nat.le_of_ble_eq_true rfl) (Nat.le_of_ble_eq_true rfl) (es := [.inr (.inl a6_), vU, .inl 2]) rfl rfl).trans ?_
  refine congrArg (cI _) (funext fun a8_ => funext fun h7_ => ?_)
  refine (R_istore (ls' := [.inr (.inr (.inl 0)), .inr (.inl x0), z1, .inr (.inl a6_), vU, .inl a4_, .inl a8_, z6]) zf102_66 (Nat.le_of_ble_eq_true rfl) rfl rfl).trans ?_
  refine (R_lload_n zf102_68 rfl rfl).trans ?_
  refine (R_callJ zf102_69 zo_102 zsl_11_293 zr_103 zl_103 (Nat.le_of_ble_eq_true rfl) rfl rfl (Nat.le_of_ble_eq_true rfl) (Nat.le_of_ble_eq_true rfl) (es := [.inr (.inl a6_), vU]) rfl rfl).trans ?_
  refine congrArg (cJ _) (funext fun a10_ => funext fun h9_ => ?_)
  refine (R_lstore_n (ls' := [.inr (.inr (.inl 0)), .inr (.inl x0), z1, .inr (.inl a10_), vU, .inl a4_, .inl a8_, z6]) zf102_72 (Nat.le_of_ble_eq_true rfl) (st2_z rfl hz1 rfl) rfl).trans ?_
  refine (R_lload_n zf102_73 rfl rfl).trans ?_
  refine (R_bipush zf102_74 zb_20 rfl).trans ?_
  refine (R_callI zf102_76 zo_102 zsl_11_296 (by rw [zr_104]; rfl) zl_104 (Nat.le_of_ble_eq_true rfl) rfl rfl (Nat.le_of_ble_eq_true rfl) (Nat.le_of_ble_eq_true rfl) (es := [.inr (.inl a10_), vU, .inl 20]) rfl rfl).trans ?_
  refine congrArg (cI _) (funext fun a12_ => funext fun h11_ => ?_)
  refine (R_iconst zf102_79 zw_1 rfl).trans ?_
  refine (R_iadd zf102_80 rfl).trans ?_
  refine (R_istore (ls' := [.inr (.inr (.inl 0)), .inr (.inl x0), z1, .inr (.inl a10_), vU, .inl a4_, .inl a8_, .inl (wI (a12_ + 1))]) zf102_81 (Nat.le_of_ble_eq_true rfl) rfl rfl).trans ?_
  refine (R_aload_n zf102_83 rfl zlt_0 rfl).trans ?_
  refine (R_aload_n zf102_84 rfl zlt_0 rfl).trans ?_
  refine (R_getR zf102_85 zo_102 zfl_11_88 zk1_0 zft_11_10 zmr_0_10 rfl).trans ?_
  refine (R_iload zf102_88 rfl rfl).trans ?_
  refine (R_iload zf102_90 rfl rfl).trans ?_
  refine (R_vcallI zf102_92 zo_102 zvl_11_224 (by rw [zr_71]; rfl) zl_71 (Nat.le_of_ble_eq_true rfl) rfl rfl (Nat.le_of_ble_eq_true rfl) (Nat.le_of_ble_eq_true rfl) (es := [.inr (.inr (.inl 0)), .inr (.inr (.inl 12)), .inl a4_, .inl (wI (a12_ + 1))]) rfl rfl zk1_0 zo_71).trans ?_
  refine congrArg (cI _) (funext fun a14_ => funext fun h13_ => ?_)
  refine (R_if_eq (t := 123) zf102_95 rfl rfl).trans ?_
  refine ite_congr rfl (fun c15_ => ?_) (fun c15_ => ?_)
  · refine (R_lload_n zf102_123 rfl rfl).trans ?_
    exact R_lreturn zf102_124 zr_102
  · refine (R_aload_n zf102_98 rfl zlt_0 rfl).trans ?_
    refine (R_aload_n zf102_99 rfl zlt_0 rfl).trans ?_
    refine (R_getR zf102_100 zo_102 zfl_11_88 zk1_0 zft_11_10 zmr_0_10 rfl).trans ?_
    refine (R_iload zf102_103 rfl rfl).trans ?_
    refine (R_iload zf102_105 rfl rfl).trans ?_
    refine (R_iload zf102_107 rfl rfl).trans ?_
    refine (R_aload_n zf102_109 rfl zlt_0 rfl).trans ?_
    refine (R_aload_n zf102_110 rfl zlt_0 rfl).trans ?_
    refine (R_getR zf102_111 zo_102 zfl_11_88 zk1_0 zft_11_10 zmr_0_10 rfl).trans ?_
    refine (R_iload zf102_114 rfl rfl).trans ?_
    refine (R_vcallI zf102_116 zo_102 zvl_11_300 (by rw [zr_105]; rfl) zl_105 (Nat.le_of_ble_eq_true rfl) rfl rfl (Nat.le_of_ble_eq_true rfl) (Nat.le_of_ble_eq_true rfl) (es := [.inr (.inr (.inl 0)), .inr (.inr (.inl 12)), .inl a4_, vU, vU, vU]) rfl rfl zk1_0 zo_105).trans ?_
    refine congrArg (cI _) (funext fun a17_ => funext fun h16_ => ?_)
    refine (R_vcallI zf102_119 zo_102 zvl_11_239 (by rw [zr_78]; rfl) zl_78 (Nat.le_of_ble_eq_true rfl) rfl rfl (Nat.le_of_ble_eq_true rfl) (Nat.le_of_ble_eq_true rfl) (es := [.inr (.inr (.inl 0)), .inr (.inr (.inl 12)), .inl a4_, .inl (wI (a12_ + 1)), .inl a8_, .inl a17_, vU, vU]) rfl rfl zk1_0 zo_78).trans ?_
    refine congrArg (cI _) (funext fun a19_ => funext fun h18_ => ?_)
    refine (R_pop zf102_122 rfl rfl).trans ?_
    refine (R_lload_n zf102_123 rfl rfl).trans ?_
    exact R_lreturn zf102_124 zr_102
-- CannonPost.canStep(LCannonPost$State;II)Z at 0
theorem q118_0 (d : Nat) (x0 : Int) (x1 : Int) (h : MH) : Run (d + 1) 118 0 [.inr (.inr (.inl 0)), .inr (.inr (.inl 13)), .inl x0, .inl x1, vU, vU] [] h = (cI (Run d 115 0 [.inr (.inr (.inl 7)), .inl x0, .inl x1, .inl 1] [] h) fun a2_ h1_ => (cI (Run d 115 0 [.inr (.inr (.inl 7)), .inl x0, .inl x1, .inl 2] [] h1_) fun a4_ h3_ => (cI (Run d 115 0 [.inr (.inr (.inl 7)), .inl x0, .inl x1, .inl 0] [] h3_) fun a6_ h5_ => (if a6_ = 0 then (cI (Run d 115 0 [.inr (.inr (.inl 7)), .inl x0, .inl x1, .inl 3] [] h5_) fun a9_ h8_ => (cI (Run d 71 0 [.inr (.inr (.inl 0)), .inr (.inr (.inl 13)), .inl a2_, .inl a9_] [] h8_) fun a11_ h10_ => (if a11_ = 0 ∨ a11_ = 1 then some (some (.inl a11_), h10_) else none))) else (if a6_ = 1 then (if a2_ ≤ 0 then some (some (.inl 0), h5_) else (if 9999 < (wI ((h5_ 93 4) + a2_)) then some (some (.inl 0), h5_) else some (some (.inl 1), h5_))) else (if a6_ = 2 then (cI (Run d 96 0 [.inr (.inr (.inl 13)), .inl a2_, .inl a4_] [] h5_) fun a17_ h16_ => (if ¬ a17_ = 0 then some (some (.inl 0), h16_) else some (some (.inl 1), h16_))) else (cI (Run d 91 0 [.inr (.inr (.inl 0)), .inr (.inr (.inl 13)), .inl a2_, .inl a4_] [] h5_) fun a20_ h19_ => (if a20_ = 0 ∨ a20_ = 1 then some (some (.inl a20_), h19_) else none)))))))) := by
  refine (R_aload_n zf118_0 rfl zlt_0 rfl).trans ?_
  refine (R_getR zf118_1 zo_118 zfl_11_49 zk1_0 zft_11_5 zmr_0_5 rfl).trans ?_
  refine (R_iload_n zf118_4 rfl rfl).trans ?_
  refine (R_iload_n zf118_5 rfl rfl).trans ?_
  refine (R_iconst zf118_6 zw_1 rfl).trans ?_
  refine (R_vcallI zf118_7 zo_118 zvl_11_314 (by rw [zr_115]; rfl) zl_115 (Nat.le_of_ble_eq_true rfl) rfl rfl (Nat.le_of_ble_eq_true rfl) (Nat.le_of_ble_eq_true rfl) (es := [.inr (.inr (.inl 7)), .inl x0, .inl x1, .inl 1]) rfl rfl zk1_7 zo_115).trans ?_
  refine congrArg (cI _) (funext fun a2_ => funext fun h1_ => ?_)
  refine (R_istore (ls' := [.inr (.inr (.inl 0)), .inr (.inr (.inl 13)), .inl x0, .inl x1, .inl a2_, vU]) zf118_10 (Nat.le_of_ble_eq_true rfl) rfl rfl).trans ?_
  refine (R_aload_n zf118_12 rfl zlt_0 rfl).trans ?_
  refine (R_getR zf118_13 zo_118 zfl_11_49 zk1_0 zft_11_5 zmr_0_5 rfl).trans ?_
  refine (R_iload_n zf118_16 rfl rfl).trans ?_
  refine (R_iload_n zf118_17 rfl rfl).trans ?_
  refine (R_iconst zf118_18 zw_2 rfl).trans ?_
  refine (R_vcallI zf118_19 zo_118 zvl_11_314 (by rw [zr_115]; rfl) zl_115 (Nat.le_of_ble_eq_true rfl) rfl rfl (Nat.le_of_ble_eq_true rfl) (Nat.le_of_ble_eq_true rfl) (es := [.inr (.inr (.inl 7)), .inl x0, .inl x1, .inl 2]) rfl rfl zk1_7 zo_115).trans ?_
  refine congrArg (cI _) (funext fun a4_ => funext fun h3_ => ?_)
  refine (R_istore (ls' := [.inr (.inr (.inl 0)), .inr (.inr (.inl 13)), .inl x0, .inl x1, .inl a2_, .inl a4_]) zf118_22 (Nat.le_of_ble_eq_true rfl) rfl rfl).trans ?_
  refine (R_aload_n zf118_24 rfl zlt_0 rfl).trans ?_
  refine (R_getR zf118_25 zo_118 zfl_11_49 zk1_0 zft_11_5 zmr_0_5 rfl).trans ?_
  refine (R_iload_n zf118_28 rfl rfl).trans ?_
  refine (R_iload_n zf118_29 rfl rfl).trans ?_
  refine (R_iconst zf118_30 zw_0 rfl).trans ?_
  refine (R_vcallI zf118_31 zo_118 zvl_11_314 (by rw [zr_115]; rfl) zl_115 (Nat.le_of_ble_eq_true rfl) rfl rfl (Nat.le_of_ble_eq_true rfl) (Nat.le_of_ble_eq_true rfl) (es := [.inr (.inr (.inl 7)), .inl x0, .inl x1, .inl 0]) rfl rfl zk1_7 zo_115).trans ?_
  refine congrArg (cI _) (funext fun a6_ => funext fun h5_ => ?_)
  refine (switch_if (c := a6_ = 0) (fun c7_ => ?_) (fun c7_ => ?_))
  · refine (R_tsw (t := 60) zf118_34 (by omega) (by rw [c7_]; rfl) rfl).trans ?_
    refine (R_aload_n zf118_60 rfl zlt_0 rfl).trans ?_
    refine (R_aload_n zf118_61 rfl zlt_13 rfl).trans ?_
    refine (R_iload zf118_62 rfl rfl).trans ?_
    refine (R_aload_n zf118_64 rfl zlt_0 rfl).trans ?_
    refine (R_getR zf118_65 zo_118 zfl_11_49 zk1_0 zft_11_5 zmr_0_5 rfl).trans ?_
    refine (R_iload_n zf118_68 rfl rfl).trans ?_
    refine (R_iload_n zf118_69 rfl rfl).trans ?_
    refine (R_iconst zf118_70 zw_3 rfl).trans ?_
    refine (R_vcallI zf118_71 zo_118 zvl_11_314 (by rw [zr_115]; rfl) zl_115 (Nat.le_of_ble_eq_true rfl) rfl rfl (Nat.le_of_ble_eq_true rfl) (Nat.le_of_ble_eq_true rfl) (es := [.inr (.inr (.inl 7)), .inl x0, .inl x1, .inl 3]) rfl rfl zk1_7 zo_115).trans ?_
    refine congrArg (cI _) (funext fun a9_ => funext fun h8_ => ?_)
    refine (R_vcallI zf118_74 zo_118 zvl_11_224 (by rw [zr_71]; rfl) zl_71 (Nat.le_of_ble_eq_true rfl) rfl rfl (Nat.le_of_ble_eq_true rfl) (Nat.le_of_ble_eq_true rfl) (es := [.inr (.inr (.inl 0)), .inr (.inr (.inl 13)), .inl a2_, .inl a9_]) rfl rfl zk1_0 zo_71).trans ?_
    refine congrArg (cI _) (funext fun a11_ => funext fun h10_ => ?_)
    exact R_ireturn_z zf118_77 zr_118
  refine (switch_if (c := a6_ = 1) (fun c12_ => ?_) (fun c12_ => ?_))
  · refine (R_tsw (t := 78) zf118_34 (by omega) (by rw [c12_]; rfl) rfl).trans ?_
    refine (R_iload zf118_78 rfl rfl).trans ?_
    refine (R_if_le (t := 102) zf118_80 rfl rfl).trans ?_
    refine ite_congr rfl (fun c13_ => ?_) (fun c13_ => ?_)
    · refine (R_iconst zf118_102 zw_0 rfl).trans ?_
      exact R_ireturn zf118_103 (by rw [zr_118]; rfl)
    · refine (R_aload_n zf118_83 rfl zlt_13 rfl).trans ?_
      refine (R_getR zf118_84 zo_118 zfl_11_162 zk1_13 zft_9_0 zmr_13_0 rfl).trans ?_
      refine (R_iconst zf118_87 zw_4 rfl).trans ?_
      refine (R_ialdc zf118_88 zk_93 (by decide) rfl rfl).trans ?_
      refine (R_iload zf118_89 rfl rfl).trans ?_
      refine (R_iadd zf118_91 rfl).trans ?_
      refine (R_sipush zf118_92 zs_9999 rfl).trans ?_
      refine (R_icmp_gt (t := 102) zf118_95 rfl rfl).trans ?_
      refine ite_congr rfl (fun c14_ => ?_) (fun c14_ => ?_)
      · refine (R_iconst zf118_102 zw_0 rfl).trans ?_
        exact R_ireturn zf118_103 (by rw [zr_118]; rfl)
      · refine (R_iconst zf118_98 zw_1 rfl).trans ?_
        refine (R_goto (t := 103) zf118_99 rfl).trans ?_
        exact R_ireturn zf118_103 (by rw [zr_118]; rfl)
  refine (switch_if (c := a6_ = 2) (fun c15_ => ?_) (fun c15_ => ?_))
  · refine (R_tsw (t := 104) zf118_34 (by omega) (by rw [c15_]; rfl) rfl).trans ?_
    refine (R_aload_n zf118_104 rfl zlt_13 rfl).trans ?_
    refine (R_iload zf118_105 rfl rfl).trans ?_
    refine (R_iload zf118_107 rfl rfl).trans ?_
    refine (R_vcallI zf118_109 zo_118 zvl_11_246 (by rw [zr_96]; rfl) zl_96 (Nat.le_of_ble_eq_true rfl) rfl rfl (Nat.le_of_ble_eq_true rfl) (Nat.le_of_ble_eq_true rfl) (es := [.inr (.inr (.inl 13)), .inl a2_, .inl a4_]) rfl rfl zk1_13 zo_96).trans ?_
    refine congrArg (cI _) (funext fun a17_ => funext fun h16_ => ?_)
    refine (R_if_ne (t := 119) zf118_112 rfl rfl).trans ?_
    refine ite_congr rfl (fun c18_ => ?_) (fun c18_ => ?_)
    · refine (R_iconst zf118_119 zw_0 rfl).trans ?_
      exact R_ireturn zf118_120 (by rw [zr_118]; rfl)
    · refine (R_iconst zf118_115 zw_1 rfl).trans ?_
      refine (R_goto (t := 120) zf118_116 rfl).trans ?_
      exact R_ireturn zf118_120 (by rw [zr_118]; rfl)
  refine (R_tswD (t := 121) zf118_34 (by omega) rfl).trans ?_
  refine (R_aload_n zf118_121 rfl zlt_0 rfl).trans ?_
  refine (R_aload_n zf118_122 rfl zlt_13 rfl).trans ?_
  refine (R_iload zf118_123 rfl rfl).trans ?_
  refine (R_iload zf118_125 rfl rfl).trans ?_
  refine (R_vcallI zf118_127 zo_118 zvl_11_243 (by rw [zr_91]; rfl) zl_91 (Nat.le_of_ble_eq_true rfl) rfl rfl (Nat.le_of_ble_eq_true rfl) (Nat.le_of_ble_eq_true rfl) (es := [.inr (.inr (.inl 0)), .inr (.inr (.inl 13)), .inl a2_, .inl a4_]) rfl rfl zk1_0 zo_91).trans ?_
  refine congrArg (cI _) (funext fun a20_ => funext fun h19_ => ?_)
  exact R_ireturn_z zf118_130 zr_118
-- CannonPost.follow(LCannonPost$State;IZ)I at 66
theorem q117_66 (d : Nat) (x0 : Int) (x1 : Int) (x2 : Int) (x3 : Int) (x4 : Int) (h : MH) : Run (d + 1) 117 66 [.inr (.inr (.inl 0)), .inr (.inr (.inl 13)), .inl x0, .inl x1, .inl x2, .inl x3, .inl x4] [] h = (if x3 ≤ x4 then Run (d + 1) 117 3 [.inr (.inr (.inl 0)), .inr (.inr (.inl 13)), .inl x0, .inl x1, .inl (wI (x2 + 1)), .inl x3, .inl x4] [] h else (if x1 = 0 then (cV (Run d 119 0 [.inr (.inr (.inl 0)), .inr (.inr (.inl 13)), .inl x0, .inl x2, vU, vU] [] h) fun h3_ => Run (d + 1) 117 66 [.inr (.inr (.inl 0)), .inr (.inr (.inl 13)), .inl x0, .inl x1, .inl x2, .inl x3, .inl (wI (x4 + 1))] [] h3_) else (cV (Run d 77 0 [.inr (.inr (.inl 11)), .inr (.inr (.inl 13))] [] h) fun h4_ => (cV (Run d 119 0 [.inr (.inr (.inl 0)), .inr (.inr (.inl 13)), .inl x0, .inl x2, vU, vU] [] h4_) fun h5_ => Run (d + 1) 117 66 [.inr (.inr (.inl 0)), .inr (.inr (.inl 13)), .inl x0, .inl x1, .inl x2, .inl x3, .inl (wI (x4 + 1))] [] h5_)))) := by
  refine (R_iload zf117_66 rfl rfl).trans ?_
  refine (R_iload zf117_68 rfl rfl).trans ?_
  refine (R_icmp_ge (t := 99) zf117_70 rfl rfl).trans ?_
  refine ite_congr rfl (fun c1_ => ?_) (fun c1_ => ?_)
  · refine (R_iinc (ls' := [.inr (.inr (.inl 0)), .inr (.inr (.inl 13)), .inl x0, .inl x1, .inl (wI (x2 + 1)), .inl x3, .inl x4]) zf117_99 rfl rfl rfl).trans ?_
    refine (R_goto (t := 3) zf117_102 rfl).trans ?_
    rfl
  · refine (R_iload_n zf117_73 rfl rfl).trans ?_
    refine (R_if_eq (t := 85) zf117_74 rfl rfl).trans ?_
    refine ite_congr rfl (fun c2_ => ?_) (fun c2_ => ?_)
    · refine (R_aload_n zf117_85 rfl zlt_0 rfl).trans ?_
      refine (R_aload_n zf117_86 rfl zlt_13 rfl).trans ?_
      refine (R_iload_n zf117_87 rfl rfl).trans ?_
      refine (R_iload zf117_88 rfl rfl).trans ?_
      refine (R_vcallV zf117_90 zo_117 zvl_11_325 zr_119 zl_119 (Nat.le_of_ble_eq_true rfl) rfl rfl (Nat.le_of_ble_eq_true rfl) (Nat.le_of_ble_eq_true rfl) (es := [.inr (.inr (.inl 0)), .inr (.inr (.inl 13)), .inl x0, .inl x2, vU, vU]) rfl rfl zk1_0 zo_119).trans ?_
      refine congrArg (cV _) (funext fun h3_ => ?_)
      refine (R_iinc (ls' := [.inr (.inr (.inl 0)), .inr (.inr (.inl 13)), .inl x0, .inl x1, .inl x2, .inl x3, .inl (wI (x4 + 1))]) zf117_93 rfl rfl rfl).trans ?_
      refine (R_goto (t := 66) zf117_96 rfl).trans ?_
      rfl
    · refine (R_aload_n zf117_77 rfl zlt_0 rfl).trans ?_
      refine (R_getR zf117_78 zo_117 zfl_11_81 zk1_0 zft_11_9 zmr_0_9 rfl).trans ?_
      refine (R_aload_n zf117_81 rfl zlt_13 rfl).trans ?_
      refine (R_vcallV zf117_82 zo_117 zvl_11_235 zr_77 zl_77 (Nat.le_of_ble_eq_true rfl) rfl rfl (Nat.le_of_ble_eq_true rfl) (Nat.le_of_ble_eq_true rfl) (es := [.inr (.inr (.inl 11)), .inr (.inr (.inl 13))]) rfl rfl zk1_11 zo_77).trans ?_
      refine congrArg (cV _) (funext fun h4_ => ?_)
      refine (R_aload_n zf117_85 rfl zlt_0 rfl).trans ?_
      refine (R_aload_n zf117_86 rfl zlt_13 rfl).trans ?_
      refine (R_iload_n zf117_87 rfl rfl).trans ?_
      refine (R_iload zf117_88 rfl rfl).trans ?_
      refine (R_vcallV zf117_90 zo_117 zvl_11_325 zr_119 zl_119 (Nat.le_of_ble_eq_true rfl) rfl rfl (Nat.le_of_ble_eq_true rfl) (Nat.le_of_ble_eq_true rfl) (es := [.inr (.inr (.inl 0)), .inr (.inr (.inl 13)), .inl x0, .inl x2, vU, vU]) rfl rfl zk1_0 zo_119).trans ?_
      refine congrArg (cV _) (funext fun h5_ => ?_)
      refine (R_iinc (ls' := [.inr (.inr (.inl 0)), .inr (.inr (.inl 13)), .inl x0, .inl x1, .inl x2, .inl x3, .inl (wI (x4 + 1))]) zf117_93 rfl rfl rfl).trans ?_
      refine (R_goto (t := 66) zf117_96 rfl).trans ?_
      rfl
-- CannonPost.canStep(LCannonPost$State;II)Z at 0
theorem q118_0_1 (d : Nat) (x0 : Int) (x1 : Int) (h : MH) : Run (d + 1) 118 0 [.inr (.inr (.inl 0)), .inr (.inr (.inl 12)), .inl x0, .inl x1, vU, vU] [] h = (cI (Run d 115 0 [.inr (.inr (.inl 7)), .inl x0, .inl x1, .inl 1] [] h) fun a2_ h1_ => (cI (Run d 115 0 [.inr (.inr (.inl 7)), .inl x0, .inl x1, .inl 2] [] h1_) fun a4_ h3_ => (cI (Run d 115 0 [.inr (.inr (.inl 7)), .inl x0, .inl x1, .inl 0] [] h3_) fun a6_ h5_ => (if a6_ = 0 then (cI (Run d 115 0 [.inr (.inr (.inl 7)), .inl x0, .inl x1, .inl 3] [] h5_) fun a9_ h8_ => (cI (Run d 71 0 [.inr (.inr (.inl 0)), .inr (.inr (.inl 12)), .inl a2_, .inl a9_] [] h8_) fun a11_ h10_ => (if a11_ = 0 ∨ a11_ = 1 then some (some (.inl a11_), h10_) else none))) else (if a6_ = 1 then (if a2_ ≤ 0 then some (some (.inl 0), h5_) else (if 9999 < (wI ((h5_ 91 4) + a2_)) then some (some (.inl 0), h5_) else some (some (.inl 1), h5_))) else (if a6_ = 2 then (cI (Run d 96 0 [.inr (.inr (.inl 12)), .inl a2_, .inl a4_] [] h5_) fun a17_ h16_ => (if ¬ a17_ = 0 then some (some (.inl 0), h16_) else some (some (.inl 1), h16_))) else (cI (Run d 91 0 [.inr (.inr (.inl 0)), .inr (.inr (.inl 12)), .inl a2_, .inl a4_] [] h5_) fun a20_ h19_ => (if a20_ = 0 ∨ a20_ = 1 then some (some (.inl a20_), h19_) else none)))))))) := by
  refine (R_aload_n zf118_0 rfl zlt_0 rfl).trans ?_
  refine (R_getR zf118_1 zo_118 zfl_11_49 zk1_0 zft_11_5 zmr_0_5 rfl).trans ?_
  refine (R_iload_n zf118_4 rfl rfl).trans ?_
  refine (R_iload_n zf118_5 rfl rfl).trans ?_
  refine (R_iconst zf118_6 zw_1 rfl).trans ?_
  refine (R_vcallI zf118_7 zo_118 zvl_11_314 (by rw [zr_115]; rfl) zl_115 (Nat.le_of_ble_eq_true rfl) rfl rfl (Nat.le_of_ble_eq_true rfl) (Nat.le_of_ble_eq_true rfl) (es := [.inr (.inr (.inl 7)), .inl x0, .inl x1, .inl 1]) rfl rfl zk1_7 zo_115).trans ?_
  refine congrArg (cI _) (funext fun a2_ => funext fun h1_ => ?_)
  refine (R_istore (ls' := [.inr (.inr (.inl 0)), .inr (.inr (.inl 12)), .inl x0, .inl x1, .inl a2_, vU]) zf118_10 (Nat.le_of_ble_eq_true rfl) rfl rfl).trans ?_
  refine (R_aload_n zf118_12 rfl zlt_0 rfl).trans ?_
  refine (R_getR zf118_13 zo_118 zfl_11_49 zk1_0 zft_11_5 zmr_0_5 rfl).trans ?_
  refine (R_iload_n zf118_16 rfl rfl).trans ?_
  refine (R_iload_n zf118_17 rfl rfl).trans ?_
  refine (R_iconst zf118_18 zw_2 rfl).trans ?_
  refine (R_vcallI zf118_19 zo_118 zvl_11_314 (by rw [zr_115]; rfl) zl_115 (Nat.le_of_ble_eq_true rfl) rfl rfl (Nat.le_of_ble_eq_true rfl) (Nat.le_of_ble_eq_true rfl) (es := [.inr (.inr (.inl 7)), .inl x0, .inl x1, .inl 2]) rfl rfl zk1_7 zo_115).trans ?_
  refine congrArg (cI _) (funext fun a4_ => funext fun h3_ => ?_)
  refine (R_istore (ls' := [.inr (.inr (.inl 0)), .inr (.inr (.inl 12)), .inl x0, .inl x1, .inl a2_, .inl a4_]) zf118_22 (Nat.le_of_ble_eq_true rfl) rfl rfl).trans ?_
  refine (R_aload_n zf118_24 rfl zlt_0 rfl).trans ?_
  refine (R_getR zf118_25 zo_118 zfl_11_49 zk1_0 zft_11_5 zmr_0_5 rfl).trans ?_
  refine (R_iload_n zf118_28 rfl rfl).trans ?_
  refine (R_iload_n zf118_29 rfl rfl).trans ?_
  refine (R_iconst zf118_30 zw_0 rfl).trans ?_
  refine (R_vcallI zf118_31 zo_118 zvl_11_314 (by rw [zr_115]; rfl) zl_115 (Nat.le_of_ble_eq_true rfl) rfl rfl (Nat.le_of_ble_eq_true rfl) (Nat.le_of_ble_eq_true rfl) (es := [.inr (.inr (.inl 7)), .inl x0, .inl x1, .inl 0]) rfl rfl zk1_7 zo_115).trans ?_
  refine congrArg (cI _) (funext fun a6_ => funext fun h5_ => ?_)
  refine (switch_if (c := a6_ = 0) (fun c7_ => ?_) (fun c7_ => ?_))
  · refine (R_tsw (t := 60) zf118_34 (by omega) (by rw [c7_]; rfl) rfl).trans ?_
    refine (R_aload_n zf118_60 rfl zlt_0 rfl).trans ?_
    refine (R_aload_n zf118_61 rfl zlt_12 rfl).trans ?_
    refine (R_iload zf118_62 rfl rfl).trans ?_
    refine (R_aload_n zf118_64 rfl zlt_0 rfl).trans ?_
    refine (R_getR zf118_65 zo_118 zfl_11_49 zk1_0 zft_11_5 zmr_0_5 rfl).trans ?_
    refine (R_iload_n zf118_68 rfl rfl).trans ?_
    refine (R_iload_n zf118_69 rfl rfl).trans ?_
    refine (R_iconst zf118_70 zw_3 rfl).trans ?_
    refine (R_vcallI zf118_71 zo_118 zvl_11_314 (by rw [zr_115]; rfl) zl_115 (Nat.le_of_ble_eq_true rfl) rfl rfl (Nat.le_of_ble_eq_true rfl) (Nat.le_of_ble_eq_true rfl) (es := [.inr (.inr (.inl 7)), .inl x0, .inl x1, .inl 3]) rfl rfl zk1_7 zo_115).trans ?_
    refine congrArg (cI _) (funext fun a9_ => funext fun h8_ => ?_)
    refine (R_vcallI zf118_74 zo_118 zvl_11_224 (by rw [zr_71]; rfl) zl_71 (Nat.le_of_ble_eq_true rfl) rfl rfl (Nat.le_of_ble_eq_true rfl) (Nat.le_of_ble_eq_true rfl) (es := [.inr (.inr (.inl 0)), .inr (.inr (.inl 12)), .inl a2_, .inl a9_]) rfl rfl zk1_0 zo_71).trans ?_
    refine congrArg (cI _) (funext fun a11_ => funext fun h10_ => ?_)
    exact R_ireturn_z zf118_77 zr_118
  refine (switch_if (c := a6_ = 1) (fun c12_ => ?_) (fun c12_ => ?_))
  · refine (R_tsw (t := 78) zf118_34 (by omega) (by rw [c12_]; rfl) rfl).trans ?_
    refine (R_iload zf118_78 rfl rfl).trans ?_
    refine (R_if_le (t := 102) zf118_80 rfl rfl).trans ?_
    refine ite_congr rfl (fun c13_ => ?_) (fun c13_ => ?_)
    · refine (R_iconst zf118_102 zw_0 rfl).trans ?_
      exact R_ireturn zf118_103 (by rw [zr_118]; rfl)
    · refine (R_aload_n zf118_83 rfl zlt_12 rfl).trans ?_
      refine (R_getR zf118_84 zo_118 zfl_11_162 zk1_12 zft_9_0 zmr_12_0 rfl).trans ?_
      refine (R_iconst zf118_87 zw_4 rfl).trans ?_
      refine (R_ialdc zf118_88 zk_91 (by decide) rfl rfl).trans ?_
      refine (R_iload zf118_89 rfl rfl).trans ?_
      refine (R_iadd zf118_91 rfl).trans ?_
      refine (R_sipush zf118_92 zs_9999 rfl).trans ?_
      refine (R_icmp_gt (t := 102) zf118_95 rfl rfl).trans ?_
      refine ite_congr rfl (fun c14_ => ?_) (fun c14_ => ?_)
      · refine (R_iconst zf118_102 zw_0 rfl).trans ?_
        exact R_ireturn zf118_103 (by rw [zr_118]; rfl)
      · refine (R_iconst zf118_98 zw_1 rfl).trans ?_
        refine (R_goto (t := 103) zf118_99 rfl).trans ?_
        exact R_ireturn zf118_103 (by rw [zr_118]; rfl)
  refine (switch_if (c := a6_ = 2) (fun c15_ => ?_) (fun c15_ => ?_))
  · refine (R_tsw (t := 104) zf118_34 (by omega) (by rw [c15_]; rfl) rfl).trans ?_
    refine (R_aload_n zf118_104 rfl zlt_12 rfl).trans ?_
    refine (R_iload zf118_105 rfl rfl).trans ?_
    refine (R_iload zf118_107 rfl rfl).trans ?_
    refine (R_vcallI zf118_109 zo_118 zvl_11_246 (by rw [zr_96]; rfl) zl_96 (Nat.le_of_ble_eq_true rfl) rfl rfl (Nat.le_of_ble_eq_true rfl) (Nat.le_of_ble_eq_true rfl) (es := [.inr (.inr (.inl 12)), .inl a2_, .inl a4_]) rfl rfl zk1_12 zo_96).trans ?_
    refine congrArg (cI _) (funext fun a17_ => funext fun h16_ => ?_)
    refine (R_if_ne (t := 119) zf118_112 rfl rfl).trans ?_
    refine ite_congr rfl (fun c18_ => ?_) (fun c18_ => ?_)
    · refine (R_iconst zf118_119 zw_0 rfl).trans ?_
      exact R_ireturn zf118_120 (by rw [zr_118]; rfl)
    · refine (R_iconst zf118_115 zw_1 rfl).trans ?_
      refine (R_goto (t := 120) zf118_116 rfl).trans ?_
      exact R_ireturn zf118_120 (by rw [zr_118]; rfl)
  refine (R_tswD (t := 121) zf118_34 (by omega) rfl).trans ?_
  refine (R_aload_n zf118_121 rfl zlt_0 rfl).trans ?_
  refine (R_aload_n zf118_122 rfl zlt_12 rfl).trans ?_
  refine (R_iload zf118_123 rfl rfl).trans ?_
  refine (R_iload zf118_125 rfl rfl).trans ?_
  refine (R_vcallI zf118_127 zo_118 zvl_11_243 (by rw [zr_91]; rfl) zl_91 (Nat.le_of_ble_eq_true rfl) rfl rfl (Nat.le_of_ble_eq_true rfl) (Nat.le_of_ble_eq_true rfl) (es := [.inr (.inr (.inl 0)), .inr (.inr (.inl 12)), .inl a2_, .inl a4_]) rfl rfl zk1_0 zo_91).trans ?_
  refine congrArg (cI _) (funext fun a20_ => funext fun h19_ => ?_)
  exact R_ireturn_z zf118_130 zr_118
-- CannonPost.follow(LCannonPost$State;IZ)I at 66
theorem q117_66_1 (d : Nat) (x0 : Int) (x1 : Int) (x2 : Int) (x3 : Int) (x4 : Int) (h : MH) : Run (d + 1) 117 66 [.inr (.inr (.inl 0)), .inr (.inr (.inl 12)), .inl x0, .inl x1, .inl x2, .inl x3, .inl x4] [] h = (if x3 ≤ x4 then Run (d + 1) 117 3 [.inr (.inr (.inl 0)), .inr (.inr (.inl 12)), .inl x0, .inl x1, .inl (wI (x2 + 1)), .inl x3, .inl x4] [] h else (if x1 = 0 then (cV (Run d 119 0 [.inr (.inr (.inl 0)), .inr (.inr (.inl 12)), .inl x0, .inl x2, vU, vU] [] h) fun h3_ => Run (d + 1) 117 66 [.inr (.inr (.inl 0)), .inr (.inr (.inl 12)), .inl x0, .inl x1, .inl x2, .inl x3, .inl (wI (x4 + 1))] [] h3_) else (cV (Run d 77 0 [.inr (.inr (.inl 11)), .inr (.inr (.inl 12))] [] h) fun h4_ => (cV (Run d 119 0 [.inr (.inr (.inl 0)), .inr (.inr (.inl 12)), .inl x0, .inl x2, vU, vU] [] h4_) fun h5_ => Run (d + 1) 117 66 [.inr (.inr (.inl 0)), .inr (.inr (.inl 12)), .inl x0, .inl x1, .inl x2, .inl x3, .inl (wI (x4 + 1))] [] h5_)))) := by
  refine (R_iload zf117_66 rfl rfl).trans ?_
  refine (R_iload zf117_68 rfl rfl).trans ?_
  refine (R_icmp_ge (t := 99) zf117_70 rfl rfl).trans ?_
  refine ite_congr rfl (fun c1_ => ?_) (fun c1_ => ?_)
  · refine (R_iinc (ls' := [.inr (.inr (.inl 0)), .inr (.inr (.inl 12)), .inl x0, .inl x1, .inl (wI (x2 + 1)), .inl x3, .inl x4]) zf117_99 rfl rfl rfl).trans ?_
    refine (R_goto (t := 3) zf117_102 rfl).trans ?_
    rfl
  · refine (R_iload_n zf117_73 rfl rfl).trans ?_
    refine (R_if_eq (t := 85) zf117_74 rfl rfl).trans ?_
    refine ite_congr rfl (fun c2_ => ?_) (fun c2_ => ?_)
    · refine (R_aload_n zf117_85 rfl zlt_0 rfl).trans ?_
      refine (R_aload_n zf117_86 rfl zlt_12 rfl).trans ?_
      refine (R_iload_n zf117_87 rfl rfl).trans ?_
      refine (R_iload zf117_88 rfl rfl).trans ?_
      refine (R_vcallV zf117_90 zo_117 zvl_11_325 zr_119 zl_119 (Nat.le_of_ble_eq_true rfl) rfl rfl (Nat.le_of_ble_eq_true rfl) (Nat.le_of_ble_eq_true rfl) (es := [.inr (.inr (.inl 0)), .inr (.inr (.inl 12)), .inl x0, .inl x2, vU, vU]) rfl rfl zk1_0 zo_119).trans ?_
      refine congrArg (cV _) (funext fun h3_ => ?_)
      refine (R_iinc (ls' := [.inr (.inr (.inl 0)), .inr (.inr (.inl 12)), .inl x0, .inl x1, .inl x2, .inl x3, .inl (wI (x4 + 1))]) zf117_93 rfl rfl rfl).trans ?_
      refine (R_goto (t := 66) zf117_96 rfl).trans ?_
      rfl
    · refine (R_aload_n zf117_77 rfl zlt_0 rfl).trans ?_
      refine (R_getR zf117_78 zo_117 zfl_11_81 zk1_0 zft_11_9 zmr_0_9 rfl).trans ?_
      refine (R_aload_n zf117_81 rfl zlt_12 rfl).trans ?_
      refine (R_vcallV zf117_82 zo_117 zvl_11_235 zr_77 zl_77 (Nat.le_of_ble_eq_true rfl) rfl rfl (Nat.le_of_ble_eq_true rfl) (Nat.le_of_ble_eq_true rfl) (es := [.inr (.inr (.inl 11)), .inr (.inr (.inl 12))]) rfl rfl zk1_11 zo_77).trans ?_
      refine congrArg (cV _) (funext fun h4_ => ?_)
      refine (R_aload_n zf117_85 rfl zlt_0 rfl).trans ?_
      refine (R_aload_n zf117_86 rfl zlt_12 rfl).trans ?_
      refine (R_iload_n zf117_87 rfl rfl).trans ?_
      refine (R_iload zf117_88 rfl rfl).trans ?_
      refine (R_vcallV zf117_90 zo_117 zvl_11_325 zr_119 zl_119 (Nat.le_of_ble_eq_true rfl) rfl rfl (Nat.le_of_ble_eq_true rfl) (Nat.le_of_ble_eq_true rfl) (es := [.inr (.inr (.inl 0)), .inr (.inr (.inl 12)), .inl x0, .inl x2, vU, vU]) rfl rfl zk1_0 zo_119).trans ?_
      refine congrArg (cV _) (funext fun h5_ => ?_)
      refine (R_iinc (ls' := [.inr (.inr (.inl 0)), .inr (.inr (.inl 12)), .inl x0, .inl x1, .inl x2, .inl x3, .inl (wI (x4 + 1))]) zf117_93 rfl rfl rfl).trans ?_
      refine (R_goto (t := 66) zf117_96 rfl).trans ?_
      rfl
-- CannonPost$Lawbook.worth()I at 0
theorem q84_0 (d : Nat) (h : MH) : Run (d + 1) 84 0 [.inr (.inr (.inl 6)), vU, vU, vU, vU, vU] [] h = (if (h 6 2) < 0 then some (some (.inl 0), h) else (if (h 6 2) < (h 6 1) then (if 0 ≤ (h 6 2) ∧ (h 6 2) < 4 then Run (d + 1) 84 34 [.inr (.inr (.inl 6)), .inr (.inr (.inl (25 + (h 6 2).toNat))), .inl 0, .inl 0, vU, vU] [] h else none) else some (some (.inl 0), h))) := by
  refine (R_aload_n zf84_0 rfl zlt_6 rfl).trans ?_
  refine (R_getI zf84_1 zo_84 zfl_4_15 zk1_6 zft_4_2 rfl).trans ?_
  refine (R_if_lt (t := 18) zf84_4 rfl rfl).trans ?_
  refine ite_congr rfl (fun c1_ => ?_) (fun c1_ => ?_)
  · refine (R_iconst zf84_18 zw_0 rfl).trans ?_
    exact R_ireturn_i zf84_19 zr_84
  · refine (R_aload_n zf84_7 rfl zlt_6 rfl).trans ?_
    refine (R_getI zf84_8 zo_84 zfl_4_15 zk1_6 zft_4_2 rfl).trans ?_
    refine (R_aload_n zf84_11 rfl zlt_6 rfl).trans ?_
    refine (R_getI zf84_12 zo_84 zfl_4_32 zk1_6 zft_4_1 rfl).trans ?_
    refine (R_icmp_lt (t := 20) zf84_15 rfl rfl).trans ?_
    refine ite_congr rfl (fun c2_ => ?_) (fun c2_ => ?_)
    · refine (R_aload_n zf84_20 rfl zlt_6 rfl).trans ?_
      refine (R_getR zf84_21 zo_84 zfl_4_23 zk1_6 zft_4_3 zmr_6_3 rfl).trans ?_
      refine (R_aload_n zf84_24 rfl zlt_6 rfl).trans ?_
      refine (R_getI zf84_25 zo_84 zfl_4_15 zk1_6 zft_4_2 rfl).trans ?_
      refine (R_aald zf84_28 zk_24 zmr_24_0 rfl).trans ?_
      refine ite_congr rfl (fun c3_ => ?_) (fun _ => rfl)
      refine (R_astore_n (ls' := [.inr (.inr (.inl 6)), .inr (.inr (.inl (25 + (h 6 2).toNat))), vU, vU, vU, vU]) zf84_29 (Nat.le_of_ble_eq_true rfl) (Nat.lt_trans (show (25 + (h 6 2).toNat) < 29 by omega) (by decide +kernel)) rfl rfl).trans ?_
      refine (R_iconst zf84_30 zw_0 rfl).trans ?_
      refine (R_istore_n (ls' := [.inr (.inr (.inl 6)), .inr (.inr (.inl (25 + (h 6 2).toNat))), .inl 0, vU, vU, vU]) zf84_31 (Nat.le_of_ble_eq_true rfl) rfl rfl).trans ?_
      refine (R_iconst zf84_32 zw_0 rfl).trans ?_
      refine (R_istore_n (ls' := [.inr (.inr (.inl 6)), .inr (.inr (.inl (25 + (h 6 2).toNat))), .inl 0, .inl 0, vU, vU]) zf84_33 (Nat.le_of_ble_eq_true rfl) rfl rfl).trans ?_
      rfl
    · refine (R_iconst zf84_18 zw_0 rfl).trans ?_
      exact R_ireturn_i zf84_19 zr_84
-- CannonPost$Flight.reckon(LCannonPost$State;II)V at 14
theorem q126_14 (d : Nat) (x0 : Int) (x1 : Int) (x2 : Int) (x3 : Int) (z4 : MV) (hz4 : cat z4 = 1) (z5 : MV) (hz5 : cat z5 = 1) (z6 : MV) (hz6 : cat z6 = 1) (z7 : MV) (hz7 : cat z7 = 1) (h : MH) : Run (d + 1) 126 14 [.inr (.inr (.inl 8)), .inr (.inr (.inl 12)), .inl x0, .inl x1, .inl x2, .inl x3, z4, z5, z6, z7] [] h = (if 8 ≤ x3 then Run (d + 1) 126 41 [.inr (.inr (.inl 8)), .inr (.inr (.inl 12)), .inl x0, .inl x1, .inl x2, .inl 0, z4, z5, z6, z7] [] h else (if 0 ≤ (wI (x2 + x3)) ∧ (wI (x2 + x3)) < 320 then Run (d + 1) 126 14 [.inr (.inr (.inl 8)), .inr (.inr (.inl 12)), .inl x0, .inl x1, .inl x2, .inl (wI (x3 + 1)), z4, z5, z6, z7] [] (up h 38 (wI (x2 + x3)).toNat (-1)) else none)) := by
  refine (R_iload zf126_14 rfl rfl).trans ?_
  refine (R_bipush zf126_16 zb_8 rfl).trans ?_
  refine (R_icmp_ge (t := 38) zf126_18 rfl rfl).trans ?_
  refine ite_congr rfl (fun c1_ => ?_) (fun c1_ => ?_)
  · refine (R_iconst zf126_38 zw_0 rfl).trans ?_
    refine (R_istore (ls' := [.inr (.inr (.inl 8)), .inr (.inr (.inl 12)), .inl x0, .inl x1, .inl x2, .inl 0, z4, z5, z6, z7]) zf126_39 (Nat.le_of_ble_eq_true rfl) rfl rfl).trans ?_
    rfl
  · refine (R_aload_n zf126_21 rfl zlt_8 rfl).trans ?_
    refine (R_getR zf126_22 zo_126 zfl_0_13 zk1_8 zft_0_2 zmr_8_2 rfl).trans ?_
    refine (R_iload zf126_25 rfl rfl).trans ?_
    refine (R_iload zf126_27 rfl rfl).trans ?_
    refine (R_iadd zf126_29 rfl).trans ?_
    refine (R_iconst zf126_30 zw_m1 rfl).trans ?_
    refine (R_iast zf126_31 zk_38 rfl).trans ?_
    refine ite_congr rfl (fun c2_ => ?_) (fun _ => rfl)
    refine (R_iinc (ls' := [.inr (.inr (.inl 8)), .inr (.inr (.inl 12)), .inl x0, .inl x1, .inl x2, .inl (wI (x3 + 1)), z4, z5, z6, z7]) zf126_32 rfl rfl rfl).trans ?_
    refine (R_goto (t := 14) zf126_35 rfl).trans ?_
    rfl
-- java/util/Arrays.fill([II)V at 5
theorem q48_5 (d : Nat) (x0 : Int) (x1 : Int) (x2 : Int) (h : MH) : Run d 48 5 [.inr (.inr (.inl 40)), .inl x0, .inl x1, .inl x2] [] h = (if x2 ≤ x1 then some (none, h) else (if 0 ≤ x1 ∧ x1 < 8 then Run d 48 5 [.inr (.inr (.inl 40)), .inl x0, .inl (wI (x1 + 1)), .inl x2] [] (up h 40 x1.toNat x0) else none)) := by
  refine (R_iload_n zf48_5 rfl rfl).trans ?_
  refine (R_iload_n zf48_6 rfl rfl).trans ?_
  refine (R_icmp_ge (t := 20) zf48_7 rfl rfl).trans ?_
  refine ite_congr rfl (fun c1_ => ?_) (fun c1_ => ?_)
  · exact R_return zf48_20 zr_48
  · refine (R_aload_n zf48_10 rfl zlt_40 rfl).trans ?_
    refine (R_iload_n zf48_11 rfl rfl).trans ?_
    refine (R_iload_n zf48_12 rfl rfl).trans ?_
    refine (R_iast zf48_13 zk_40 rfl).trans ?_
    refine ite_congr rfl (fun c2_ => ?_) (fun _ => rfl)
    refine (R_iinc (ls' := [.inr (.inr (.inl 40)), .inl x0, .inl (wI (x1 + 1)), .inl x2]) zf48_14 rfl rfl rfl).trans ?_
    refine (R_goto (t := 5) zf48_17 rfl).trans ?_
    rfl
-- CannonPost$Paths.trace(LCannonPost$State;II)V at 47
theorem q128_47 (d : Nat) (x0 : Int) (z1 : MV) (hz1 : cat z1 = 1) (x2 : Int) (x3 : Int) (z4 : MV) (hz4 : cat z4 = 1) (z5 : MV) (hz5 : cat z5 = 1) (h : MH) : Run (d + 1) 128 47 [.inr (.inr (.inl 9)), .inr (.inr (.inl 12)), .inl x0, z1, .inl x2, .inl x3, z4, z5] [] h = (if (h 2 3) ≤ x3 then Run (d + 1) 128 32 [.inr (.inr (.inl 9)), .inr (.inr (.inl 12)), .inl x0, z1, .inl (wI (x2 + 1)), .inl x3, z4, z5] [] h else Run (d + 1) 128 62 [.inr (.inr (.inl 9)), .inr (.inr (.inl 12)), .inl x0, z1, .inl x2, .inl x3, .inl 0, z5] [] h) := by
  refine (R_iload zf128_47 rfl rfl).trans ?_
  refine (R_aload_n zf128_49 rfl zlt_9 rfl).trans ?_
  refine (R_getR zf128_50 zo_128 zfl_7_29 zk1_9 zft_7_5 zmr_9_5 rfl).trans ?_
  refine (R_getI zf128_53 zo_128 zfl_7_43 zk1_2 zft_5_3 rfl).trans ?_
  refine (R_icmp_ge (t := 179) zf128_56 rfl rfl).trans ?_
  refine ite_congr rfl (fun c1_ => ?_) (fun c1_ => ?_)
  · refine (R_iinc (ls' := [.inr (.inr (.inl 9)), .inr (.inr (.inl 12)), .inl x0, z1, .inl (wI (x2 + 1)), .inl x3, z4, z5]) zf128_179 rfl (st1_z rfl hz1 rfl) rfl).trans ?_
    refine (R_goto (t := 32) zf128_182 rfl).trans ?_
    rfl
  · refine (R_iconst zf128_59 zw_0 rfl).trans ?_
    refine (R_istore (ls' := [.inr (.inr (.inl 9)), .inr (.inr (.inl 12)), .inl x0, z1, .inl x2, .inl x3, .inl 0, z5]) zf128_60 (Nat.le_of_ble_eq_true rfl) rfl rfl).trans ?_
    rfl
-- CannonPost$Paths.firstShot(LCannonPost$State;III)I at 0
theorem q133_0 (d : Nat) (x0 : Int) (x1 : Int) (x2 : Int) (h : MH) : Run (d + 1) 133 0 [.inr (.inr (.inl 9)), .inr (.inr (.inl 12)), .inl x0, .inl x1, .inl x2, vU, vU, vU, vU] [] h = (if x0 ≤ 1 then (if x0 ≤ 1 then Run (d + 1) 133 37 [.inr (.inr (.inl 9)), .inr (.inr (.inl 12)), .inl x0, .inl x1, .inl x2, .inl x2, .inl (wI (x2 + 1)), .inl 0, vU] [] h else Run (d + 1) 133 37 [.inr (.inr (.inl 9)), .inr (.inr (.inl 12)), .inl x0, .inl x1, .inl x2, .inl x2, .inl (h 2 3), .inl 0, vU] [] h) else (if x0 ≤ 1 then Run (d + 1) 133 37 [.inr (.inr (.inl 9)), .inr (.inr (.inl 12)), .inl x0, .inl x1, .inl x2, .inl 0, .inl (wI (x2 + 1)), .inl 0, vU] [] h else Run (d + 1) 133 37 [.inr (.inr (.inl 9)), .inr (.inr (.inl 12)), .inl x0, .inl x1, .inl x2, .inl 0, .inl (h 2 3), .inl 0, vU] [] h)) := by
  refine (R_iload_n zf133_0 rfl rfl).trans ?_
  refine (R_iconst zf133_1 zw_1 rfl).trans ?_
  refine (R_icmp_le (t := 9) zf133_2 rfl rfl).trans ?_
  refine ite_congr rfl (fun c1_ => ?_) (fun c1_ => ?_)
  · refine (R_iload zf133_9 rfl rfl).trans ?_
    refine (R_istore (ls' := [.inr (.inr (.inl 9)), .inr (.inr (.inl 12)), .inl x0, .inl x1, .inl x2, .inl x2, vU, vU, vU]) zf133_11 (Nat.le_of_ble_eq_true rfl) rfl rfl).trans ?_
    refine (R_iload_n zf133_13 rfl rfl).trans ?_
    refine (R_iconst zf133_14 zw_1 rfl).trans ?_
    refine (R_icmp_le (t := 28) zf133_15 rfl rfl).trans ?_
    refine ite_congr rfl (fun c2_ => ?_) (fun c2_ => ?_)
    · refine (R_iload zf133_28 rfl rfl).trans ?_
      refine (R_iconst zf133_30 zw_1 rfl).trans ?_
      refine (R_iadd zf133_31 rfl).trans ?_
      refine (R_istore (ls' := [.inr (.inr (.inl 9)), .inr (.inr (.inl 12)), .inl x0, .inl x1, .inl x2, .inl x2, .inl (wI (x2 + 1)), vU, vU]) zf133_32 (Nat.le_of_ble_eq_true rfl) rfl rfl).trans ?_
      refine (R_iconst zf133_34 zw_0 rfl).trans ?_
      refine (R_istore (ls' := [.inr (.inr (.inl 9)), .inr (.inr (.inl 12)), .inl x0, .inl x1, .inl x2, .inl x2, .inl (wI (x2 + 1)), .inl 0, vU]) zf133_35 (Nat.le_of_ble_eq_true rfl) rfl rfl).trans ?_
      rfl
    · refine (R_aload_n zf133_18 rfl zlt_9 rfl).trans ?_
      refine (R_getR zf133_19 zo_133 zfl_7_29 zk1_9 zft_7_5 zmr_9_5 rfl).trans ?_
      refine (R_getI zf133_22 zo_133 zfl_7_43 zk1_2 zft_5_3 rfl).trans ?_
      refine (R_goto (t := 32) zf133_25 rfl).trans ?_
      refine (R_istore (ls' := [.inr (.inr (.inl 9)), .inr (.inr (.inl 12)), .inl x0, .inl x1, .inl x2, .inl x2, .inl (h 2 3), vU, vU]) zf133_32 (Nat.le_of_ble_eq_true rfl) rfl rfl).trans ?_
      refine (R_iconst zf133_34 zw_0 rfl).trans ?_
      refine (R_istore (ls' := [.inr (.inr (.inl 9)), .inr (.inr (.inl 12)), .inl x0, .inl x1, .inl x2, .inl x2, .inl (h 2 3), .inl 0, vU]) zf133_35 (Nat.le_of_ble_eq_true rfl) rfl rfl).trans ?_
      rfl
  · refine (R_iconst zf133_5 zw_0 rfl).trans ?_
    refine (R_goto (t := 11) zf133_6 rfl).trans ?_
    refine (R_istore (ls' := [.inr (.inr (.inl 9)), .inr (.inr (.inl 12)), .inl x0, .inl x1, .inl x2, .inl 0, vU, vU, vU]) zf133_11 (Nat.le_of_ble_eq_true rfl) rfl rfl).trans ?_
    refine (R_iload_n zf133_13 rfl rfl).trans ?_
    refine (R_iconst zf133_14 zw_1 rfl).trans ?_
    refine (R_icmp_le (t := 28) zf133_15 rfl rfl).trans ?_
    refine ite_congr rfl (fun c3_ => ?_) (fun c3_ => ?_)
    · refine (R_iload zf133_28 rfl rfl).trans ?_
      refine (R_iconst zf133_30 zw_1 rfl).trans ?_
      refine (R_iadd zf133_31 rfl).trans ?_
      refine (R_istore (ls' := [.inr (.inr (.inl 9)), .inr (.inr (.inl 12)), .inl x0, .inl x1, .inl x2, .inl 0, .inl (wI (x2 + 1)), vU, vU]) zf133_32 (Nat.le_of_ble_eq_true rfl) rfl rfl).trans ?_
      refine (R_iconst zf133_34 zw_0 rfl).trans ?_
      refine (R_istore (ls' := [.inr (.inr (.inl 9)), .inr (.inr (.inl 12)), .inl x0, .inl x1, .inl x2, .inl 0, .inl (wI (x2 + 1)), .inl 0, vU]) zf133_35 (Nat.le_of_ble_eq_true rfl) rfl rfl).trans ?_
      rfl
    · refine (R_aload_n zf133_18 rfl zlt_9 rfl).trans ?_
      refine (R_getR zf133_19 zo_133 zfl_7_29 zk1_9 zft_7_5 zmr_9_5 rfl).trans ?_
      refine (R_getI zf133_22 zo_133 zfl_7_43 zk1_2 zft_5_3 rfl).trans ?_
      refine (R_goto (t := 32) zf133_25 rfl).trans ?_
      refine (R_istore (ls' := [.inr (.inr (.inl 9)), .inr (.inr (.inl 12)), .inl x0, .inl x1, .inl x2, .inl 0, .inl (h 2 3), vU, vU]) zf133_32 (Nat.le_of_ble_eq_true rfl) rfl rfl).trans ?_
      refine (R_iconst zf133_34 zw_0 rfl).trans ?_
      refine (R_istore (ls' := [.inr (.inr (.inl 9)), .inr (.inr (.inl 12)), .inl x0, .inl x1, .inl x2, .inl 0, .inl (h 2 3), .inl 0, vU]) zf133_35 (Nat.le_of_ble_eq_true rfl) rfl rfl).trans ?_
      rfl
-- CannonPost$Paths.link(LCannonPost$State;)V at 22
theorem q139_22 (d : Nat) (x0 : Int) (x1 : Int) (z2 : MV) (hz2 : cat z2 = 1) (h : MH) : Run (d + 1) 139 22 [.inr (.inr (.inl 9)), .inr (.inr (.inl 12)), .inl x0, .inl x1, z2] [] h = (if (h 2 4) ≤ x1 then Run (d + 1) 139 2 [.inr (.inr (.inl 9)), .inr (.inr (.inl 12)), .inl (wI (x0 + 1)), .inl x1, z2] [] h else Run (d + 1) 139 36 [.inr (.inr (.inl 9)), .inr (.inr (.inl 12)), .inl x0, .inl x1, .inl 0] [] h) := by
  refine (R_iload_n zf139_22 rfl rfl).trans ?_
  refine (R_aload_n zf139_23 rfl zlt_9 rfl).trans ?_
  refine (R_getR zf139_24 zo_139 zfl_7_29 zk1_9 zft_7_5 zmr_9_5 rfl).trans ?_
  refine (R_getI zf139_27 zo_139 zfl_7_71 zk1_2 zft_5_4 rfl).trans ?_
  refine (R_icmp_ge (t := 93) zf139_30 rfl rfl).trans ?_
  refine ite_congr rfl (fun c1_ => ?_) (fun c1_ => ?_)
  · refine (R_iinc (ls' := [.inr (.inr (.inl 9)), .inr (.inr (.inl 12)), .inl (wI (x0 + 1)), .inl x1, z2]) zf139_93 rfl rfl rfl).trans ?_
    refine (R_goto (t := 2) zf139_96 rfl).trans ?_
    rfl
  · refine (R_iconst zf139_33 zw_0 rfl).trans ?_
    refine (R_istore (ls' := [.inr (.inr (.inl 9)), .inr (.inr (.inl 12)), .inl x0, .inl x1, .inl 0]) zf139_34 (Nat.le_of_ble_eq_true rfl) rfl rfl).trans ?_
    rfl
-- CannonPost$Paths.netFrom(II)I at 36
theorem q140_36 (d : Nat) (z0 : MV) (hz0 : cat z0 = 1) (z1 : MV) (hz1 : cat z1 = 1) (x2 : Int) (x3 : Int) (x4 : Int) (x5 : Int) (h : MH) : Run d 140 36 [.inr (.inr (.inl 9)), z0, z1, .inl x2, .inl x3, .inl x4, .inl x5] [] h = (if (h 2 3) ≤ x5 then Run d 140 21 [.inr (.inr (.inl 9)), z0, z1, .inl x2, .inl x3, .inl (wI (x4 + 1)), .inl x5] [] h else (if (iAnd (iShr x3 x5) 1) = 0 then Run d 140 36 [.inr (.inr (.inl 9)), z0, z1, .inl x2, .inl (iOr x3 0), .inl x4, .inl (wI (x5 + 1))] [] h else (if 0 ≤ x5 ∧ x5 < 8 then Run d 140 36 [.inr (.inr (.inl 9)), z0, z1, .inl x2, .inl (iOr x3 (iAnd (h 43 x5.toNat) (iXor x2 (-1)))), .inl x4, .inl (wI (x5 + 1))] [] h else none))) := by
  refine (R_iload zf140_36 rfl rfl).trans ?_
  refine (R_aload_n zf140_38 rfl zlt_9 rfl).trans ?_
  refine (R_getR zf140_39 zo_140 zfl_7_29 zk1_9 zft_7_5 zmr_9_5 rfl).trans ?_
  refine (R_getI zf140_42 zo_140 zfl_7_43 zk1_2 zft_5_3 rfl).trans ?_
  refine (R_icmp_ge (t := 84) zf140_45 rfl rfl).trans ?_
  refine ite_congr rfl (fun c1_ => ?_) (fun c1_ => ?_)
  · refine (R_iinc (ls' := [.inr (.inr (.inl 9)), z0, z1, .inl x2, .inl x3, .inl (wI (x4 + 1)), .inl x5]) zf140_84 rfl rfl rfl).trans ?_
    refine (R_goto (t := 21) zf140_87 rfl).trans ?_
    rfl
  · refine (R_iload zf140_48 rfl rfl).trans ?_
    refine (R_iload zf140_50 rfl rfl).trans ?_
    refine (R_iload zf140_52 rfl rfl).trans ?_
    refine (R_ishr zf140_54 rfl).trans ?_
    refine (R_iconst zf140_55 zw_1 rfl).trans ?_
    refine (R_iand zf140_56 rfl).trans ?_
    refine (R_if_eq (t := 74) zf140_57 rfl rfl).trans ?_
    refine ite_congr rfl (fun c2_ => ?_) (fun c2_ => ?_)
    · refine (R_iconst zf140_74 zw_0 rfl).trans ?_
      refine (R_ior zf140_75 rfl).trans ?_
      refine (R_istore (ls' := [.inr (.inr (.inl 9)), z0, z1, .inl x2, .inl (iOr x3 0), .inl x4, .inl x5]) zf140_76 (Nat.le_of_ble_eq_true rfl) rfl rfl).trans ?_
      refine (R_iinc (ls' := [.inr (.inr (.inl 9)), z0, z1, .inl x2, .inl (iOr x3 0), .inl x4, .inl (wI (x5 + 1))]) zf140_78 rfl rfl rfl).trans ?_
      refine (R_goto (t := 36) zf140_81 rfl).trans ?_
      rfl
    · refine (R_aload_n zf140_60 rfl zlt_9 rfl).trans ?_
      refine (R_getR zf140_61 zo_140 zfl_7_23 zk1_9 zft_7_3 zmr_9_3 rfl).trans ?_
      refine (R_iload zf140_64 rfl rfl).trans ?_
      refine (R_iald zf140_66 zk_43 rfl).trans ?_
      refine ite_congr rfl (fun c3_ => ?_) (fun _ => rfl)
      refine (R_iload_n zf140_67 rfl rfl).trans ?_
      refine (R_iconst zf140_68 zw_m1 rfl).trans ?_
      refine (R_ixor zf140_69 rfl).trans ?_
      refine (R_iand zf140_70 rfl).trans ?_
      refine (R_goto (t := 75) zf140_71 rfl).trans ?_
      refine (R_ior zf140_75 rfl).trans ?_
      refine (R_istore (ls' := [.inr (.inr (.inl 9)), z0, z1, .inl x2, .inl (iOr x3 (iAnd (h 43 x5.toNat) (iXor x2 (-1)))), .inl x4, .inl x5]) zf140_76 (Nat.le_of_ble_eq_true rfl) rfl rfl).trans ?_
      refine (R_iinc (ls' := [.inr (.inr (.inl 9)), z0, z1, .inl x2, .inl (iOr x3 (iAnd (h 43 x5.toNat) (iXor x2 (-1)))), .inl x4, .inl (wI (x5 + 1))]) zf140_78 rfl rfl rfl).trans ?_
      refine (R_goto (t := 36) zf140_81 rfl).trans ?_
      rfl
-- CannonPost$Guesses.explains(I)Z at 0
theorem q151_0 (d : Nat) (x0 : Int) (h : MH) : Run (d + 1) 151 0 [.inr (.inr (.inl 10)), .inl x0, vU, vU, vU, vU, vU] [] h = Run (d + 1) 151 2 [.inr (.inr (.inl 10)), .inl x0, .inl 0, vU, vU, vU, vU] [] h := by
  refine (R_iconst zf151_0 zw_0 rfl).trans ?_
  refine (R_istore_n (ls' := [.inr (.inr (.inl 10)), .inl x0, .inl 0, vU, vU, vU, vU]) zf151_1 (Nat.le_of_ble_eq_true rfl) rfl rfl).trans ?_
  rfl
-- CannonPost$Guesses.tellingShot(II)I at 29
theorem q154_29 (d : Nat) (x0 : Int) (x1 : Int) (x2 : Int) (x3 : Int) (x4 : Int) (x5 : Int) (z6 : MV) (hz6 : cat z6 = 1) (h : MH) : Run (d + 1) 154 29 [.inr (.inr (.inl 10)), .inl x0, .inl x1, .inl x2, .inl x3, .inl x4, .inl x5, z6] [] h = (if 20 < x5 then Run (d + 1) 154 13 [.inr (.inr (.inl 10)), .inl x0, .inl x1, .inl x2, .inl x3, .inl (wI (x4 + 1)), .inl x5, z6] [] h else (cI (Run d 155 0 [.inr (.inr (.inl 10)), .inl x0, .inl x1, .inl x5, .inl x4, vU, vU, vU] [] h) fun a3_ h2_ => (if x3 ≤ a3_ then Run (d + 1) 154 29 [.inr (.inr (.inl 10)), .inl x0, .inl x1, .inl x2, .inl x3, .inl x4, .inl (wI (x5 + 1)), .inl a3_] [] h2_ else Run (d + 1) 154 29 [.inr (.inr (.inl 10)), .inl x0, .inl x1, .inl (wI ((wI (100 * x4)) + x5)), .inl a3_, .inl x4, .inl (wI (x5 + 1)), .inl a3_] [] h2_))) := by
  refine (R_iload zf154_29 rfl rfl).trans ?_
  refine (R_bipush zf154_31 zb_20 rfl).trans ?_
  refine (R_icmp_gt (t := 74) zf154_33 rfl rfl).trans ?_
  refine ite_congr rfl (fun c1_ => ?_) (fun c1_ => ?_)
  · refine (R_iinc (ls' := [.inr (.inr (.inl 10)), .inl x0, .inl x1, .inl x2, .inl x3, .inl (wI (x4 + 1)), .inl x5, z6]) zf154_74 rfl rfl rfl).trans ?_
    refine (R_goto (t := 13) zf154_77 rfl).trans ?_
    rfl
  · refine (R_aload_n zf154_36 rfl zlt_10 rfl).trans ?_
    refine (R_iload_n zf154_37 rfl rfl).trans ?_
    refine (R_iload_n zf154_38 rfl rfl).trans ?_
    refine (R_iload zf154_39 rfl rfl).trans ?_
    refine (R_iload zf154_41 rfl rfl).trans ?_
    refine (R_vcallI zf154_43 zo_154 zvl_1_72 (by rw [zr_155]; rfl) zl_155 (Nat.le_of_ble_eq_true rfl) rfl rfl (Nat.le_of_ble_eq_true rfl) (Nat.le_of_ble_eq_true rfl) (es := [.inr (.inr (.inl 10)), .inl x0, .inl x1, .inl x5, .inl x4, vU, vU, vU]) rfl rfl zk1_10 zo_155).trans ?_
    refine congrArg (cI _) (funext fun a3_ => funext fun h2_ => ?_)
    refine (R_istore (ls' := [.inr (.inr (.inl 10)), .inl x0, .inl x1, .inl x2, .inl x3, .inl x4, .inl x5, .inl a3_]) zf154_46 (Nat.le_of_ble_eq_true rfl) rfl rfl).trans ?_
    refine (R_iload zf154_48 rfl rfl).trans ?_
    refine (R_iload zf154_50 rfl rfl).trans ?_
    refine (R_icmp_ge (t := 68) zf154_52 rfl rfl).trans ?_
    refine ite_congr rfl (fun c4_ => ?_) (fun c4_ => ?_)
    · refine (R_iinc (ls' := [.inr (.inr (.inl 10)), .inl x0, .inl x1, .inl x2, .inl x3, .inl x4, .inl (wI (x5 + 1)), .inl a3_]) zf154_68 rfl rfl rfl).trans ?_
      refine (R_goto (t := 29) zf154_71 rfl).trans ?_
      rfl
    · refine (R_iload zf154_55 rfl rfl).trans ?_
      refine (R_istore (ls' := [.inr (.inr (.inl 10)), .inl x0, .inl x1, .inl x2, .inl a3_, .inl x4, .inl x5, .inl a3_]) zf154_57 (Nat.le_of_ble_eq_true rfl) rfl rfl).trans ?_
      refine (R_bipush zf154_59 zb_100 rfl).trans ?_
      refine (R_iload zf154_61 rfl rfl).trans ?_
      refine (R_imul zf154_63 rfl).trans ?_
      refine (R_iload zf154_64 rfl rfl).trans ?_
      refine (R_iadd zf154_66 rfl).trans ?_
      refine (R_istore_n (ls' := [.inr (.inr (.inl 10)), .inl x0, .inl x1, .inl (wI ((wI (100 * x4)) + x5)), .inl a3_, .inl x4, .inl x5, .inl a3_]) zf154_67 (Nat.le_of_ble_eq_true rfl) rfl rfl).trans ?_
      refine (R_iinc (ls' := [.inr (.inr (.inl 10)), .inl x0, .inl x1, .inl (wI ((wI (100 * x4)) + x5)), .inl a3_, .inl x4, .inl (wI (x5 + 1)), .inl a3_]) zf154_68 rfl rfl rfl).trans ?_
      refine (R_goto (t := 29) zf154_71 rfl).trans ?_
      rfl
-- CannonPost$Guesses.product(I)J at 0
theorem q161_0 (d : Nat) (x0 : Int) (h : MH) : Run d 161 0 [.inr (.inr (.inl 10)), .inl x0, vU, vU, vU, vU] [] h = Run d 161 5 [.inr (.inr (.inl 10)), .inl x0, .inr (.inl 1), vU, .inl 0, vU] [] h := by
  refine (R_lconst (v := 1) zf161_0 rfl rfl).trans ?_
  refine (R_lstore_n (ls' := [.inr (.inr (.inl 10)), .inl x0, .inr (.inl 1), vU, vU, vU]) zf161_1 (Nat.le_of_ble_eq_true rfl) rfl rfl).trans ?_
  refine (R_iconst zf161_2 zw_0 rfl).trans ?_
  refine (R_istore (ls' := [.inr (.inr (.inl 10)), .inl x0, .inr (.inl 1), vU, .inl 0, vU]) zf161_3 (Nat.le_of_ble_eq_true rfl) rfl rfl).trans ?_
  rfl
-- CannonPost$Guesses.hasFaceOf(I)Z at 2
theorem q163_2 (d : Nat) (x0 : Int) (x1 : Int) (h : MH) : Run d 163 2 [.inr (.inr (.inl 10)), .inl x0, .inl x1] [] h = (if (h 10 3) ≤ x1 then some (some (.inl 0), h) else (if 0 ≤ x1 ∧ x1 < 12 then (if ¬ (h 48 x1.toNat) = x0 then Run d 163 2 [.inr (.inr (.inl 10)), .inl x0, .inl (wI (x1 + 1))] [] h else some (some (.inl 1), h)) else none)) := by
  refine (R_iload_n zf163_2 rfl rfl).trans ?_
  refine (R_aload_n zf163_3 rfl zlt_10 rfl).trans ?_
  refine (R_getI zf163_4 zo_163 zfl_1_42 zk1_10 zft_1_3 rfl).trans ?_
  refine (R_icmp_ge (t := 28) zf163_7 rfl rfl).trans ?_
  refine ite_congr rfl (fun c1_ => ?_) (fun c1_ => ?_)
  · refine (R_iconst zf163_28 zw_0 rfl).trans ?_
    exact R_ireturn zf163_29 (by rw [zr_163]; rfl)
  · refine (R_aload_n zf163_10 rfl zlt_10 rfl).trans ?_
    refine (R_getR zf163_11 zo_163 zfl_1_23 zk1_10 zft_1_6 zmr_10_6 rfl).trans ?_
    refine (R_iload_n zf163_14 rfl rfl).trans ?_
    refine (R_iald zf163_15 zk_48 rfl).trans ?_
    refine ite_congr rfl (fun c2_ => ?_) (fun _ => rfl)
    refine (R_iload_n zf163_16 rfl rfl).trans ?_
    refine (R_icmp_ne (t := 22) zf163_17 rfl rfl).trans ?_
    refine ite_congr rfl (fun c3_ => ?_) (fun c3_ => ?_)
    · refine (R_iinc (ls' := [.inr (.inr (.inl 10)), .inl x0, .inl (wI (x1 + 1))]) zf163_22 rfl rfl rfl).trans ?_
      refine (R_goto (t := 2) zf163_25 rfl).trans ?_
      rfl
    · refine (R_iconst zf163_20 zw_1 rfl).trans ?_
      exact R_ireturn zf163_21 (by rw [zr_163]; rfl)
-- CannonPost.rests(IIII)I at 94
theorem q167_94 (d : Nat) (x0 : Int) (x1 : Int) (x2 : Int) (x3 : Int) (x4 : Int) (x5 : Int) (x6 : Int) (z7 : MV) (hz7 : cat z7 = 1) (y8 : Int) (h : MH) : Run (d + 1) 167 94 [.inr (.inr (.inl 0)), .inl x0, .inl x1, .inl x2, .inl x3, .inl x4, .inl x5, .inl x6, z7] [.inl y8] h = (if y8 = 0 then (if y8 = 0 then Run (d + 1) 167 33 [.inr (.inr (.inl 0)), .inl x0, .inl x1, .inl x2, .inl x3, .inl (wI (x4 + 0)), .inl x5, .inl (wI (x6 + 1)), .inl y8] [] h else Run (d + 1) 167 33 [.inr (.inr (.inl 0)), .inl x0, .inl x1, .inl x2, .inl x3, .inl (wI (x4 + 1)), .inl x5, .inl (wI (x6 + 1)), .inl y8] [] h) else (if ¬ x4 = x3 then (if y8 = 0 then Run (d + 1) 167 33 [.inr (.inr (.inl 0)), .inl x0, .inl x1, .inl x2, .inl x3, .inl (wI (x4 + 0)), .inl x5, .inl (wI (x6 + 1)), .inl y8] [] h else Run (d + 1) 167 33 [.inr (.inr (.inl 0)), .inl x0, .inl x1, .inl x2, .inl x3, .inl (wI (x4 + 1)), .inl x5, .inl (wI (x6 + 1)), .inl y8] [] h) else some (some (.inl (wI ((wI (10 * x5)) + x6))), h))) := by
  refine (R_istore (ls' := [.inr (.inr (.inl 0)), .inl x0, .inl x1, .inl x2, .inl x3, .inl x4, .inl x5, .inl x6, .inl y8]) zf167_94 (Nat.le_of_ble_eq_true rfl) rfl rfl).trans ?_
  refine (R_iload zf167_96 rfl rfl).trans ?_
  refine (R_if_eq (t := 117) zf167_98 rfl rfl).trans ?_
  refine ite_congr rfl (fun c1_ => ?_) (fun c1_ => ?_)
  · refine (R_iload zf167_117 rfl rfl).trans ?_
    refine (R_iload zf167_119 rfl rfl).trans ?_
    refine (R_if_eq (t := 128) zf167_121 rfl rfl).trans ?_
    refine ite_congr rfl (fun c2_ => ?_) (fun c2_ => ?_)
    · refine (R_iconst zf167_128 zw_0 rfl).trans ?_
      refine (R_iadd zf167_129 rfl).trans ?_
      refine (R_istore (ls' := [.inr (.inr (.inl 0)), .inl x0, .inl x1, .inl x2, .inl x3, .inl (wI (x4 + 0)), .inl x5, .inl x6, .inl y8]) zf167_130 (Nat.le_of_ble_eq_true rfl) rfl rfl).trans ?_
      refine (R_iinc (ls' := [.inr (.inr (.inl 0)), .inl x0, .inl x1, .inl x2, .inl x3, .inl (wI (x4 + 0)), .inl x5, .inl (wI (x6 + 1)), .inl y8]) zf167_132 rfl rfl rfl).trans ?_
      refine (R_goto (t := 33) zf167_135 rfl).trans ?_
      rfl
    · refine (R_iconst zf167_124 zw_1 rfl).trans ?_
      refine (R_goto (t := 129) zf167_125 rfl).trans ?_
      refine (R_iadd zf167_129 rfl).trans ?_
      refine (R_istore (ls' := [.inr (.inr (.inl 0)), .inl x0, .inl x1, .inl x2, .inl x3, .inl (wI (x4 + 1)), .inl x5, .inl x6, .inl y8]) zf167_130 (Nat.le_of_ble_eq_true rfl) rfl rfl).trans ?_
      refine (R_iinc (ls' := [.inr (.inr (.inl 0)), .inl x0, .inl x1, .inl x2, .inl x3, .inl (wI (x4 + 1)), .inl x5, .inl (wI (x6 + 1)), .inl y8]) zf167_132 rfl rfl rfl).trans ?_
      refine (R_goto (t := 33) zf167_135 rfl).trans ?_
      rfl
  · refine (R_iload zf167_101 rfl rfl).trans ?_
    refine (R_iload zf167_103 rfl rfl).trans ?_
    refine (R_icmp_ne (t := 117) zf167_105 rfl rfl).trans ?_
    refine ite_congr rfl (fun c3_ => ?_) (fun c3_ => ?_)
    · refine (R_iload zf167_117 rfl rfl).trans ?_
      refine (R_iload zf167_119 rfl rfl).trans ?_
      refine (R_if_eq (t := 128) zf167_121 rfl rfl).trans ?_
      refine ite_congr rfl (fun c4_ => ?_) (fun c4_ => ?_)
      · refine (R_iconst zf167_128 zw_0 rfl).trans ?_
        refine (R_iadd zf167_129 rfl).trans ?_
        refine (R_istore (ls' := [.inr (.inr (.inl 0)), .inl x0, .inl x1, .inl x2, .inl x3, .inl (wI (x4 + 0)), .inl x5, .inl x6, .inl y8]) zf167_130 (Nat.le_of_ble_eq_true rfl) rfl rfl).trans ?_
        refine (R_iinc (ls' := [.inr (.inr (.inl 0)), .inl x0, .inl x1, .inl x2, .inl x3, .inl (wI (x4 + 0)), .inl x5, .inl (wI (x6 + 1)), .inl y8]) zf167_132 rfl rfl rfl).trans ?_
        refine (R_goto (t := 33) zf167_135 rfl).trans ?_
        rfl
      · refine (R_iconst zf167_124 zw_1 rfl).trans ?_
        refine (R_goto (t := 129) zf167_125 rfl).trans ?_
        refine (R_iadd zf167_129 rfl).trans ?_
        refine (R_istore (ls' := [.inr (.inr (.inl 0)), .inl x0, .inl x1, .inl x2, .inl x3, .inl (wI (x4 + 1)), .inl x5, .inl x6, .inl y8]) zf167_130 (Nat.le_of_ble_eq_true rfl) rfl rfl).trans ?_
        refine (R_iinc (ls' := [.inr (.inr (.inl 0)), .inl x0, .inl x1, .inl x2, .inl x3, .inl (wI (x4 + 1)), .inl x5, .inl (wI (x6 + 1)), .inl y8]) zf167_132 rfl rfl rfl).trans ?_
        refine (R_goto (t := 33) zf167_135 rfl).trans ?_
        rfl
    · refine (R_bipush zf167_108 zb_10 rfl).trans ?_
      refine (R_iload zf167_110 rfl rfl).trans ?_
      refine (R_imul zf167_112 rfl).trans ?_
      refine (R_iload zf167_113 rfl rfl).trans ?_
      refine (R_iadd zf167_115 rfl).trans ?_
      exact R_ireturn_i zf167_116 zr_167
-- CannonPostModel.readPlan()V at 17
theorem q213_17 (d : Nat) (x0 : Int) (x1 : Int) (h : MH) : Run (d + 1) 213 17 [.inr (.inr (.inl 97)), .inl x0, .inl x1] [] h = (if x1 = 0 then (cI (Run d 188 0 [.inr (.inr (.inl 97))] [] (up h 109 4 x0)) fun a3_ h2_ => (if a3_ = (-1) then some (none, h2_) else (cI (Run d 189 0 [.inr (.inr (.inl 97))] [] h2_) fun a6_ h5_ => some (none, h5_)))) else (cV (Run d 214 0 [.inr (.inr (.inl 97)), .inl (wI (4 * (wI (64 + x0)))), vU, vU] [] h) fun h7_ => (if (h7_ 97 11) = (-1) then (cI (Run d 188 0 [.inr (.inr (.inl 97))] [] h7_) fun a10_ h9_ => (if ¬ a10_ = 59 then Run (d + 1) 213 57 [.inr (.inr (.inl 97)), .inl (wI (x0 + 1)), .inl x1] [.inl 0] h9_ else Run (d + 1) 213 57 [.inr (.inr (.inl 97)), .inl (wI (x0 + 1)), .inl x1] [.inl 1] h9_)) else some (none, h7_)))) := by
  refine (R_iload_n zf213_17 rfl rfl).trans ?_
  refine (R_if_eq (t := 91) zf213_18 rfl rfl).trans ?_
  refine ite_congr rfl (fun c1_ => ?_) (fun c1_ => ?_)
  · refine (R_aload_n zf213_91 rfl zlt_97 rfl).trans ?_
    refine (R_getR zf213_92 zo_213 zfl_12_58 zk1_97 zft_12_25 zmr_97_25 rfl).trans ?_
    refine (R_iconst zf213_95 zw_4 rfl).trans ?_
    refine (R_iload_n zf213_96 rfl rfl).trans ?_
    refine (R_iastc zf213_97 zk_109 (by decide) rfl rfl).trans ?_
    refine (R_aload_n zf213_98 rfl zlt_97 rfl).trans ?_
    refine (R_vcallI zf213_99 zo_213 zvl_12_138 (by rw [zr_188]; rfl) zl_188 (Nat.le_of_ble_eq_true rfl) rfl rfl (Nat.le_of_ble_eq_true rfl) (Nat.le_of_ble_eq_true rfl) (es := [.inr (.inr (.inl 97))]) rfl rfl zk1_97 zo_188).trans ?_
    refine congrArg (cI _) (funext fun a3_ => funext fun h2_ => ?_)
    refine (R_iconst zf213_102 zw_m1 rfl).trans ?_
    refine (R_icmp_eq (t := 111) zf213_103 rfl rfl).trans ?_
    refine ite_congr rfl (fun c4_ => ?_) (fun c4_ => ?_)
    · exact R_return zf213_111 zr_213
    · refine (R_aload_n zf213_106 rfl zlt_97 rfl).trans ?_
      refine (R_vcallI zf213_107 zo_213 zvl_12_134 (by rw [zr_189]; rfl) zl_189 (Nat.le_of_ble_eq_true rfl) rfl rfl (Nat.le_of_ble_eq_true rfl) (Nat.le_of_ble_eq_true rfl) (es := [.inr (.inr (.inl 97))]) rfl rfl zk1_97 zo_189).trans ?_
      refine congrArg (cI _) (funext fun a6_ => funext fun h5_ => ?_)
      refine (R_pop zf213_110 rfl rfl).trans ?_
      exact R_return zf213_111 zr_213
  · refine (R_aload_n zf213_21 rfl zlt_97 rfl).trans ?_
    refine (R_iconst zf213_22 zw_4 rfl).trans ?_
    refine (R_bipush zf213_23 zb_64 rfl).trans ?_
    refine (R_iload_n zf213_25 rfl rfl).trans ?_
    refine (R_iadd zf213_26 rfl).trans ?_
    refine (R_imul zf213_27 rfl).trans ?_
    refine (R_vcallV zf213_28 zo_213 zvl_12_272 zr_214 zl_214 (Nat.le_of_ble_eq_true rfl) rfl rfl (Nat.le_of_ble_eq_true rfl) (Nat.le_of_ble_eq_true rfl) (es := [.inr (.inr (.inl 97)), .inl (wI (4 * (wI (64 + x0)))), vU, vU]) rfl rfl zk1_97 zo_214).trans ?_
    refine congrArg (cV _) (funext fun h7_ => ?_)
    refine (R_aload_n zf213_31 rfl zlt_97 rfl).trans ?_
    refine (R_getI zf213_32 zo_213 zfl_12_128 zk1_97 zft_12_11 rfl).trans ?_
    refine (R_iconst zf213_35 zw_m1 rfl).trans ?_
    refine (R_icmp_eq (t := 40) zf213_36 rfl rfl).trans ?_
    refine ite_congr rfl (fun c8_ => ?_) (fun c8_ => ?_)
    · refine (R_iinc (ls' := [.inr (.inr (.inl 97)), .inl (wI (x0 + 1)), .inl x1]) zf213_40 rfl rfl rfl).trans ?_
      refine (R_aload_n zf213_43 rfl zlt_97 rfl).trans ?_
      refine (R_vcallI zf213_44 zo_213 zvl_12_138 (by rw [zr_188]; rfl) zl_188 (Nat.le_of_ble_eq_true rfl) rfl rfl (Nat.le_of_ble_eq_true rfl) (Nat.le_of_ble_eq_true rfl) (es := [.inr (.inr (.inl 97))]) rfl rfl zk1_97 zo_188).trans ?_
      refine congrArg (cI _) (funext fun a10_ => funext fun h9_ => ?_)
      refine (R_bipush zf213_47 zb_59 rfl).trans ?_
      refine (R_icmp_ne (t := 56) zf213_49 rfl rfl).trans ?_
      refine ite_congr rfl (fun c11_ => ?_) (fun c11_ => ?_)
      · refine (R_iconst zf213_56 zw_0 rfl).trans ?_
        rfl
      · refine (R_iconst zf213_52 zw_1 rfl).trans ?_
        refine (R_goto (t := 57) zf213_53 rfl).trans ?_
        rfl
    · exact R_return zf213_39 zr_213
-- CannonPostModel.clause()V at 0
theorem q200_0 (d : Nat) (h : MH) : Run (d + 1) 200 0 [.inr (.inr (.inl 97)), vU, vU, vU, vU] [] h = (cI (Run d 188 0 [.inr (.inr (.inl 97))] [] h) fun a2_ h1_ => (cI (Run d 201 0 [.inr (.inr (.inl 126)), .inl a2_, vU] [] h1_) fun a4_ h3_ => (if ¬ a4_ = 0 then (cI (Run d 202 0 [.inr (.inr (.inl 97)), .inl 58] [] (up h3_ 97 10 (wI ((h3_ 97 10) + 1)))) fun a7_ h6_ => (if ¬ a7_ = 0 then (cI (Run d 188 0 [.inr (.inr (.inl 97))] [] h6_) fun a10_ h9_ => (if a10_ = 33 then (cI (Run d 203 0 [.inr (.inr (.inl 97)), .inl 0, .inl 0, vU, vU] [] h9_) fun a13_ h12_ => (cI (Run d 202 0 [.inr (.inr (.inl 97)), .inl 63] [] h12_) fun a15_ h14_ => (if ¬ a15_ = 0 then (cI (Run d 206 0 [.inr (.inr (.inl 97)), vU, vU, vU, vU] [] h14_) fun a18_ h17_ => Run (d + 1) 200 134 [.inr (.inr (.inl 97)), .inl a2_, .inl a13_, .inl a18_, .inl a10_] [] h17_) else some (none, h14_)))) else (if ¬ a10_ = 40 then (cI (Run d 206 0 [.inr (.inr (.inl 97)), vU, vU, vU, vU] [] h9_) fun a21_ h20_ => (if ¬ (h20_ 97 11) = (-1) then Run (d + 1) 200 134 [.inr (.inr (.inl 97)), .inl a2_, .inl 1, .inl a21_, .inl a10_] [] h20_ else (cI (Run d 188 0 [.inr (.inr (.inl 97))] [] h20_) fun a24_ h23_ => (cI (Run d 211 0 [.inl a24_] [] h23_) fun a26_ h25_ => (if a26_ = 0 then Run (d + 1) 200 134 [.inr (.inr (.inl 97)), .inl a2_, .inl 1, .inl a21_, .inl a10_] [] h25_ else (cI (Run d 203 0 [.inr (.inr (.inl 97)), .inl 1, .inl a21_, vU, vU] [] h25_) fun a29_ h28_ => (cI (Run d 202 0 [.inr (.inr (.inl 97)), .inl 63] [] h28_) fun a31_ h30_ => (if ¬ a31_ = 0 then (cI (Run d 206 0 [.inr (.inr (.inl 97)), vU, vU, vU, vU] [] h30_) fun a34_ h33_ => Run (d + 1) 200 134 [.inr (.inr (.inl 97)), .inl a2_, .inl a29_, .inl a34_, .inl a10_] [] h33_) else some (none, h30_))))))))) else (cI (Run d 203 0 [.inr (.inr (.inl 97)), .inl 0, .inl 0, vU, vU] [] h9_) fun a36_ h35_ => (cI (Run d 202 0 [.inr (.inr (.inl 97)), .inl 63] [] h35_) fun a38_ h37_ => (if ¬ a38_ = 0 then (cI (Run d 206 0 [.inr (.inr (.inl 97)), vU, vU, vU, vU] [] h37_) fun a41_ h40_ => Run (d + 1) 200 134 [.inr (.inr (.inl 97)), .inl a2_, .inl a36_, .inl a41_, .inl a10_] [] h40_) else some (none, h37_))))))) else some (none, h6_))) else (cI (Run d 189 0 [.inr (.inr (.inl 97))] [] h3_) fun a43_ h42_ => some (none, h42_))))) := by
  refine (R_aload_n zf200_0 rfl zlt_97 rfl).trans ?_
  refine (R_vcallI zf200_1 zo_200 zvl_12_138 (by rw [zr_188]; rfl) zl_188 (Nat.le_of_ble_eq_true rfl) rfl rfl (Nat.le_of_ble_eq_true rfl) (Nat.le_of_ble_eq_true rfl) (es := [.inr (.inr (.inl 97))]) rfl rfl zk1_97 zo_188).trans ?_
  refine congrArg (cI _) (funext fun a2_ => funext fun h1_ => ?_)
  refine (R_istore_n (ls' := [.inr (.inr (.inl 97)), .inl a2_, vU, vU, vU]) zf200_4 (Nat.le_of_ble_eq_true rfl) rfl rfl).trans ?_
  refine (R_ldcS zf200_5 zo_200 zcl_12_26 zrl_12_26 rfl).trans ?_
  refine (R_iload_n zf200_7 rfl rfl).trans ?_
  refine (R_callI zf200_8 zo_200 zsl_12_154 (by rw [zr_201]; rfl) zl_201 (Nat.le_of_ble_eq_true rfl) rfl rfl (Nat.le_of_ble_eq_true rfl) (Nat.le_of_ble_eq_true rfl) (es := [.inr (.inr (.inl 126)), .inl a2_, vU]) rfl rfl).trans ?_
  refine congrArg (cI _) (funext fun a4_ => funext fun h3_ => ?_)
  refine (R_if_ne (t := 20) zf200_11 rfl rfl).trans ?_
  refine ite_congr rfl (fun c5_ => ?_) (fun c5_ => ?_)
  · refine (R_aload_n zf200_20 rfl zlt_97 rfl).trans ?_
    refine (R_dup zf200_21 rfl rfl).trans ?_
    refine (R_getI zf200_22 zo_200 zfl_12_119 zk1_97 zft_12_10 rfl).trans ?_
    refine (R_iconst zf200_25 zw_1 rfl).trans ?_
    refine (R_iadd zf200_26 rfl).trans ?_
    refine (R_putI zf200_27 zo_200 zfl_12_119 zk1_97 zft_12_10 rfl).trans ?_
    refine (R_aload_n zf200_30 rfl zlt_97 rfl).trans ?_
    refine (R_bipush zf200_31 zb_58 rfl).trans ?_
    refine (R_vcallI zf200_33 zo_200 zvl_12_164 (by rw [zr_202]; rfl) zl_202 (Nat.le_of_ble_eq_true rfl) rfl rfl (Nat.le_of_ble_eq_true rfl) (Nat.le_of_ble_eq_true rfl) (es := [.inr (.inr (.inl 97)), .inl 58]) rfl rfl zk1_97 zo_202).trans ?_
    refine congrArg (cI _) (funext fun a7_ => funext fun h6_ => ?_)
    refine (R_if_ne (t := 40) zf200_36 rfl rfl).trans ?_
    refine ite_congr rfl (fun c8_ => ?_) (fun c8_ => ?_)
    · refine (R_iconst zf200_40 zw_1 rfl).trans ?_
      refine (R_istore_n (ls' := [.inr (.inr (.inl 97)), .inl a2_, .inl 1, vU, vU]) zf200_41 (Nat.le_of_ble_eq_true rfl) rfl rfl).trans ?_
      refine (R_iconst zf200_42 zw_0 rfl).trans ?_
      refine (R_istore_n (ls' := [.inr (.inr (.inl 97)), .inl a2_, .inl 1, .inl 0, vU]) zf200_43 (Nat.le_of_ble_eq_true rfl) rfl rfl).trans ?_
      refine (R_aload_n zf200_44 rfl zlt_97 rfl).trans ?_
      refine (R_vcallI zf200_45 zo_200 zvl_12_138 (by rw [zr_188]; rfl) zl_188 (Nat.le_of_ble_eq_true rfl) rfl rfl (Nat.le_of_ble_eq_true rfl) (Nat.le_of_ble_eq_true rfl) (es := [.inr (.inr (.inl 97))]) rfl rfl zk1_97 zo_188).trans ?_
      refine congrArg (cI _) (funext fun a10_ => funext fun h9_ => ?_)
      refine (R_istore (ls' := [.inr (.inr (.inl 97)), .inl a2_, .inl 1, .inl 0, .inl a10_]) zf200_48 (Nat.le_of_ble_eq_true rfl) rfl rfl).trans ?_
      refine (R_iload zf200_50 rfl rfl).trans ?_
      refine (R_bipush zf200_52 zb_33 rfl).trans ?_
      refine (R_icmp_eq (t := 64) zf200_54 rfl rfl).trans ?_
      refine ite_congr rfl (fun c11_ => ?_) (fun c11_ => ?_)
      · refine (R_aload_n zf200_64 rfl zlt_97 rfl).trans ?_
        refine (R_iconst zf200_65 zw_0 rfl).trans ?_
        refine (R_iconst zf200_66 zw_0 rfl).trans ?_
        refine (R_vcallI zf200_67 zo_200 zvl_12_187 (by rw [zr_203]; rfl) zl_203 (Nat.le_of_ble_eq_true rfl) rfl rfl (Nat.le_of_ble_eq_true rfl) (Nat.le_of_ble_eq_true rfl) (es := [.inr (.inr (.inl 97)), .inl 0, .inl 0, vU, vU]) rfl rfl zk1_97 zo_203).trans ?_
        refine congrArg (cI _) (funext fun a13_ => funext fun h12_ => ?_)
        refine (R_istore_n (ls' := [.inr (.inr (.inl 97)), .inl a2_, .inl a13_, .inl 0, .inl a10_]) zf200_70 (Nat.le_of_ble_eq_true rfl) rfl rfl).trans ?_
        refine (R_aload_n zf200_71 rfl zlt_97 rfl).trans ?_
        refine (R_bipush zf200_72 zb_63 rfl).trans ?_
        refine (R_vcallI zf200_74 zo_200 zvl_12_164 (by rw [zr_202]; rfl) zl_202 (Nat.le_of_ble_eq_true rfl) rfl rfl (Nat.le_of_ble_eq_true rfl) (Nat.le_of_ble_eq_true rfl) (es := [.inr (.inr (.inl 97)), .inl 63]) rfl rfl zk1_97 zo_202).trans ?_
        refine congrArg (cI _) (funext fun a15_ => funext fun h14_ => ?_)
        refine (R_if_ne (t := 81) zf200_77 rfl rfl).trans ?_
        refine ite_congr rfl (fun c16_ => ?_) (fun c16_ => ?_)
        · refine (R_aload_n zf200_81 rfl zlt_97 rfl).trans ?_
          refine (R_vcallI zf200_82 zo_200 zvl_12_161 (by rw [zr_206]; rfl) zl_206 (Nat.le_of_ble_eq_true rfl) rfl rfl (Nat.le_of_ble_eq_true rfl) (Nat.le_of_ble_eq_true rfl) (es := [.inr (.inr (.inl 97)), vU, vU, vU, vU]) rfl rfl zk1_97 zo_206).trans ?_
          refine congrArg (cI _) (funext fun a18_ => funext fun h17_ => ?_)
          refine (R_istore_n (ls' := [.inr (.inr (.inl 97)), .inl a2_, .inl a13_, .inl a18_, .inl a10_]) zf200_85 (Nat.le_of_ble_eq_true rfl) rfl rfl).trans ?_
          refine (R_goto (t := 134) zf200_86 rfl).trans ?_
          rfl
        · exact R_return zf200_80 zr_200
      · refine (R_iload zf200_57 rfl rfl).trans ?_
        refine (R_bipush zf200_59 zb_40 rfl).trans ?_
        refine (R_icmp_ne (t := 89) zf200_61 rfl rfl).trans ?_
        refine ite_congr rfl (fun c19_ => ?_) (fun c19_ => ?_)
        · refine (R_aload_n zf200_89 rfl zlt_97 rfl).trans ?_
          refine (R_vcallI zf200_90 zo_200 zvl_12_161 (by rw [zr_206]; rfl) zl_206 (Nat.le_of_ble_eq_true rfl) rfl rfl (Nat.le_of_ble_eq_true rfl) (Nat.le_of_ble_eq_true rfl) (es := [.inr (.inr (.inl 97)), vU, vU, vU, vU]) rfl rfl zk1_97 zo_206).trans ?_
          refine congrArg (cI _) (funext fun a21_ => funext fun h20_ => ?_)
          refine (R_istore_n (ls' := [.inr (.inr (.inl 97)), .inl a2_, .inl 1, .inl a21_, .inl a10_]) zf200_93 (Nat.le_of_ble_eq_true rfl) rfl rfl).trans ?_
          refine (R_aload_n zf200_94 rfl zlt_97 rfl).trans ?_
          refine (R_getI zf200_95 zo_200 zfl_12_128 zk1_97 zft_12_11 rfl).trans ?_
          refine (R_iconst zf200_98 zw_m1 rfl).trans ?_
          refine (R_icmp_ne (t := 134) zf200_99 rfl rfl).trans ?_
          refine ite_congr rfl (fun c22_ => ?_) (fun c22_ => ?_)
          · rfl
          · refine (R_aload_n zf200_102 rfl zlt_97 rfl).trans ?_
            refine (R_vcallI zf200_103 zo_200 zvl_12_138 (by rw [zr_188]; rfl) zl_188 (Nat.le_of_ble_eq_true rfl) rfl rfl (Nat.le_of_ble_eq_true rfl) (Nat.le_of_ble_eq_true rfl) (es := [.inr (.inr (.inl 97))]) rfl rfl zk1_97 zo_188).trans ?_
            refine congrArg (cI _) (funext fun a24_ => funext fun h23_ => ?_)
            refine (R_callI zf200_106 zo_200 zsl_12_181 (by rw [zr_211]; rfl) zl_211 (Nat.le_of_ble_eq_true rfl) rfl rfl (Nat.le_of_ble_eq_true rfl) (Nat.le_of_ble_eq_true rfl) (es := [.inl a24_]) rfl rfl).trans ?_
            refine congrArg (cI _) (funext fun a26_ => funext fun h25_ => ?_)
            refine (R_if_eq (t := 134) zf200_109 rfl rfl).trans ?_
            refine ite_congr rfl (fun c27_ => ?_) (fun c27_ => ?_)
            · rfl
            · refine (R_aload_n zf200_112 rfl zlt_97 rfl).trans ?_
              refine (R_iconst zf200_113 zw_1 rfl).trans ?_
              refine (R_iload_n zf200_114 rfl rfl).trans ?_
              refine (R_vcallI zf200_115 zo_200 zvl_12_187 (by rw [zr_203]; rfl) zl_203 (Nat.le_of_ble_eq_true rfl) rfl rfl (Nat.le_of_ble_eq_true rfl) (Nat.le_of_ble_eq_true rfl) (es := [.inr (.inr (.inl 97)), .inl 1, .inl a21_, vU, vU]) rfl rfl zk1_97 zo_203).trans ?_
              refine congrArg (cI _) (funext fun a29_ => funext fun h28_ => ?_)
              refine (R_istore_n (ls' := [.inr (.inr (.inl 97)), .inl a2_, .inl a29_, .inl a21_, .inl a10_]) zf200_118 (Nat.le_of_ble_eq_true rfl) rfl rfl).trans ?_
              refine (R_aload_n zf200_119 rfl zlt_97 rfl).trans ?_
              refine (R_bipush zf200_120 zb_63 rfl).trans ?_
              refine (R_vcallI zf200_122 zo_200 zvl_12_164 (by rw [zr_202]; rfl) zl_202 (Nat.le_of_ble_eq_true rfl) rfl rfl (Nat.le_of_ble_eq_true rfl) (Nat.le_of_ble_eq_true rfl) (es := [.inr (.inr (.inl 97)), .inl 63]) rfl rfl zk1_97 zo_202).trans ?_
              refine congrArg (cI _) (funext fun a31_ => funext fun h30_ => ?_)
              refine (R_if_ne (t := 129) zf200_125 rfl rfl).trans ?_
              refine ite_congr rfl (fun c32_ => ?_) (fun c32_ => ?_)
              · refine (R_aload_n zf200_129 rfl zlt_97 rfl).trans ?_
                refine (R_vcallI zf200_130 zo_200 zvl_12_161 (by rw [zr_206]; rfl) zl_206 (Nat.le_of_ble_eq_true rfl) rfl rfl (Nat.le_of_ble_eq_true rfl) (Nat.le_of_ble_eq_true rfl) (es := [.inr (.inr (.inl 97)), vU, vU, vU, vU]) rfl rfl zk1_97 zo_206).trans ?_
                refine congrArg (cI _) (funext fun a34_ => funext fun h33_ => ?_)
                refine (R_istore_n (ls' := [.inr (.inr (.inl 97)), .inl a2_, .inl a29_, .inl a34_, .inl a10_]) zf200_133 (Nat.le_of_ble_eq_true rfl) rfl rfl).trans ?_
                rfl
              · exact R_return zf200_128 zr_200
        · refine (R_aload_n zf200_64 rfl zlt_97 rfl).trans ?_
          refine (R_iconst zf200_65 zw_0 rfl).trans ?_
          refine (R_iconst zf200_66 zw_0 rfl).trans ?_
          refine (R_vcallI zf200_67 zo_200 zvl_12_187 (by rw [zr_203]; rfl) zl_203 (Nat.le_of_ble_eq_true rfl) rfl rfl (Nat.le_of_ble_eq_true rfl) (Nat.le_of_ble_eq_true rfl) (es := [.inr (.inr (.inl 97)), .inl 0, .inl 0, vU, vU]) rfl rfl zk1_97 zo_203).trans ?_
          refine congrArg (cI _) (funext fun a36_ => funext fun h35_ => ?_)
          refine (R_istore_n (ls' := [.inr (.inr (.inl 97)), .inl a2_, .inl a36_, .inl 0, .inl a10_]) zf200_70 (Nat.le_of_ble_eq_true rfl) rfl rfl).trans ?_
          refine (R_aload_n zf200_71 rfl zlt_97 rfl).trans ?_
          refine (R_bipush zf200_72 zb_63 rfl).trans ?_
          refine (R_vcallI zf200_74 zo_200 zvl_12_164 (by rw [zr_202]; rfl) zl_202 (Nat.le_of_ble_eq_true rfl) rfl rfl (Nat.le_of_ble_eq_true rfl) (Nat.le_of_ble_eq_true rfl) (es := [.inr (.inr (.inl 97)), .inl 63]) rfl rfl zk1_97 zo_202).trans ?_
          refine congrArg (cI _) (funext fun a38_ => funext fun h37_ => ?_)
          refine (R_if_ne (t := 81) zf200_77 rfl rfl).trans ?_
          refine ite_congr rfl (fun c39_ => ?_) (fun c39_ => ?_)
          · refine (R_aload_n zf200_81 rfl zlt_97 rfl).trans ?_
            refine (R_vcallI zf200_82 zo_200 zvl_12_161 (by rw [zr_206]; rfl) zl_206 (Nat.le_of_ble_eq_true rfl) rfl rfl (Nat.le_of_ble_eq_true rfl) (Nat.le_of_ble_eq_true rfl) (es := [.inr (.inr (.inl 97)), vU, vU, vU, vU]) rfl rfl zk1_97 zo_206).trans ?_
            refine congrArg (cI _) (funext fun a41_ => funext fun h40_ => ?_)
            refine (R_istore_n (ls' := [.inr (.inr (.inl 97)), .inl a2_, .inl a36_, .inl a41_, .inl a10_]) zf200_85 (Nat.le_of_ble_eq_true rfl) rfl rfl).trans ?_
            refine (R_goto (t := 134) zf200_86 rfl).trans ?_
            rfl
          · exact R_return zf200_80 zr_200
    · exact R_return zf200_39 zr_200
  · refine (R_aload_n zf200_14 rfl zlt_97 rfl).trans ?_
    refine (R_vcallI zf200_15 zo_200 zvl_12_134 (by rw [zr_189]; rfl) zl_189 (Nat.le_of_ble_eq_true rfl) rfl rfl (Nat.le_of_ble_eq_true rfl) (Nat.le_of_ble_eq_true rfl) (es := [.inr (.inr (.inl 97))]) rfl rfl zk1_97 zo_189).trans ?_
    refine congrArg (cI _) (funext fun a43_ => funext fun h42_ => ?_)
    refine (R_pop zf200_18 rfl rfl).trans ?_
    exact R_return zf200_19 zr_200
-- CannonPostModel.goThrough([BII)V at 32
theorem q199_32 (d : Nat) (z0 : MV) (hz0 : cat z0 = 1) (z1 : MV) (hz1 : cat z1 = 1) (h : MH) : Run (d + 1) 199 32 [.inr (.inr (.inl 97)), .inr (.inr (.inl 98)), z0, z1] [] h = (if ¬ (h 97 11) = (-1) then (if ¬ (h 97 11) = (-1) then some (none, h) else (cI (Run d 188 0 [.inr (.inr (.inl 97))] [] h) fun a4_ h3_ => (if a4_ = (-1) then some (none, h3_) else (cI (Run d 189 0 [.inr (.inr (.inl 97))] [] h3_) fun a7_ h6_ => some (none, h6_))))) else (cI (Run d 188 0 [.inr (.inr (.inl 97))] [] h) fun a9_ h8_ => (if ¬ a9_ = 59 then (if ¬ (h8_ 97 11) = (-1) then some (none, h8_) else (cI (Run d 188 0 [.inr (.inr (.inl 97))] [] h8_) fun a13_ h12_ => (if a13_ = (-1) then some (none, h12_) else (cI (Run d 189 0 [.inr (.inr (.inl 97))] [] h12_) fun a16_ h15_ => some (none, h15_))))) else (cV (Run d 200 0 [.inr (.inr (.inl 97)), vU, vU, vU, vU] [] (up h8_ 97 10 (wI ((h8_ 97 10) + 1)))) fun h17_ => Run (d + 1) 199 32 [.inr (.inr (.inl 97)), .inr (.inr (.inl 98)), z0, z1] [] h17_)))) := by
  refine (R_aload_n zf199_32 rfl zlt_97 rfl).trans ?_
  refine (R_getI zf199_33 zo_199 zfl_12_128 zk1_97 zft_12_11 rfl).trans ?_
  refine (R_iconst zf199_36 zw_m1 rfl).trans ?_
  refine (R_icmp_ne (t := 66) zf199_37 rfl rfl).trans ?_
  refine ite_congr rfl (fun c1_ => ?_) (fun c1_ => ?_)
  · refine (R_aload_n zf199_66 rfl zlt_97 rfl).trans ?_
    refine (R_getI zf199_67 zo_199 zfl_12_128 zk1_97 zft_12_11 rfl).trans ?_
    refine (R_iconst zf199_70 zw_m1 rfl).trans ?_
    refine (R_icmp_ne (t := 87) zf199_71 rfl rfl).trans ?_
    refine ite_congr rfl (fun c2_ => ?_) (fun c2_ => ?_)
    · exact R_return zf199_87 zr_199
    · refine (R_aload_n zf199_74 rfl zlt_97 rfl).trans ?_
      refine (R_vcallI zf199_75 zo_199 zvl_12_138 (by rw [zr_188]; rfl) zl_188 (Nat.le_of_ble_eq_true rfl) rfl rfl (Nat.le_of_ble_eq_true rfl) (Nat.le_of_ble_eq_true rfl) (es := [.inr (.inr (.inl 97))]) rfl rfl zk1_97 zo_188).trans ?_
      refine congrArg (cI _) (funext fun a4_ => funext fun h3_ => ?_)
      refine (R_iconst zf199_78 zw_m1 rfl).trans ?_
      refine (R_icmp_eq (t := 87) zf199_79 rfl rfl).trans ?_
      refine ite_congr rfl (fun c5_ => ?_) (fun c5_ => ?_)
      · exact R_return zf199_87 zr_199
      · refine (R_aload_n zf199_82 rfl zlt_97 rfl).trans ?_
        refine (R_vcallI zf199_83 zo_199 zvl_12_134 (by rw [zr_189]; rfl) zl_189 (Nat.le_of_ble_eq_true rfl) rfl rfl (Nat.le_of_ble_eq_true rfl) (Nat.le_of_ble_eq_true rfl) (es := [.inr (.inr (.inl 97))]) rfl rfl zk1_97 zo_189).trans ?_
        refine congrArg (cI _) (funext fun a7_ => funext fun h6_ => ?_)
        refine (R_pop zf199_86 rfl rfl).trans ?_
        exact R_return zf199_87 zr_199
  · refine (R_aload_n zf199_40 rfl zlt_97 rfl).trans ?_
    refine (R_vcallI zf199_41 zo_199 zvl_12_138 (by rw [zr_188]; rfl) zl_188 (Nat.le_of_ble_eq_true rfl) rfl rfl (Nat.le_of_ble_eq_true rfl) (Nat.le_of_ble_eq_true rfl) (es := [.inr (.inr (.inl 97))]) rfl rfl zk1_97 zo_188).trans ?_
    refine congrArg (cI _) (funext fun a9_ => funext fun h8_ => ?_)
    refine (R_bipush zf199_44 zb_59 rfl).trans ?_
    refine (R_icmp_ne (t := 66) zf199_46 rfl rfl).trans ?_
    refine ite_congr rfl (fun c10_ => ?_) (fun c10_ => ?_)
    · refine (R_aload_n zf199_66 rfl zlt_97 rfl).trans ?_
      refine (R_getI zf199_67 zo_199 zfl_12_128 zk1_97 zft_12_11 rfl).trans ?_
      refine (R_iconst zf199_70 zw_m1 rfl).trans ?_
      refine (R_icmp_ne (t := 87) zf199_71 rfl rfl).trans ?_
      refine ite_congr rfl (fun c11_ => ?_) (fun c11_ => ?_)
      · exact R_return zf199_87 zr_199
      · refine (R_aload_n zf199_74 rfl zlt_97 rfl).trans ?_
        refine (R_vcallI zf199_75 zo_199 zvl_12_138 (by rw [zr_188]; rfl) zl_188 (Nat.le_of_ble_eq_true rfl) rfl rfl (Nat.le_of_ble_eq_true rfl) (Nat.le_of_ble_eq_true rfl) (es := [.inr (.inr (.inl 97))]) rfl rfl zk1_97 zo_188).trans ?_
        refine congrArg (cI _) (funext fun a13_ => funext fun h12_ => ?_)
        refine (R_iconst zf199_78 zw_m1 rfl).trans ?_
        refine (R_icmp_eq (t := 87) zf199_79 rfl rfl).trans ?_
        refine ite_congr rfl (fun c14_ => ?_) (fun c14_ => ?_)
        · exact R_return zf199_87 zr_199
        · refine (R_aload_n zf199_82 rfl zlt_97 rfl).trans ?_
          refine (R_vcallI zf199_83 zo_199 zvl_12_134 (by rw [zr_189]; rfl) zl_189 (Nat.le_of_ble_eq_true rfl) rfl rfl (Nat.le_of_ble_eq_true rfl) (Nat.le_of_ble_eq_true rfl) (es := [.inr (.inr (.inl 97))]) rfl rfl zk1_97 zo_189).trans ?_
          refine congrArg (cI _) (funext fun a16_ => funext fun h15_ => ?_)
          refine (R_pop zf199_86 rfl rfl).trans ?_
          exact R_return zf199_87 zr_199
    · refine (R_aload_n zf199_49 rfl zlt_97 rfl).trans ?_
      refine (R_dup zf199_50 rfl rfl).trans ?_
      refine (R_getI zf199_51 zo_199 zfl_12_119 zk1_97 zft_12_10 rfl).trans ?_
      refine (R_iconst zf199_54 zw_1 rfl).trans ?_
      refine (R_iadd zf199_55 rfl).trans ?_
      refine (R_putI zf199_56 zo_199 zfl_12_119 zk1_97 zft_12_10 rfl).trans ?_
      refine (R_aload_n zf199_59 rfl zlt_97 rfl).trans ?_
      refine (R_vcallV zf199_60 zo_199 zvl_12_211 zr_200 zl_200 (Nat.le_of_ble_eq_true rfl) rfl rfl (Nat.le_of_ble_eq_true rfl) (Nat.le_of_ble_eq_true rfl) (es := [.inr (.inr (.inl 97)), vU, vU, vU, vU]) rfl rfl zk1_97 zo_200).trans ?_
      refine congrArg (cV _) (funext fun h17_ => ?_)
      refine (R_goto (t := 32) zf199_63 rfl).trans ?_
      rfl
-- CannonPostModel.readLeague()V at 55
theorem q184_55 (d : Nat) (x0 : Int) (h : MH) : Run (d + 1) 184 55 [.inr (.inr (.inl 97)), .inl x0] [] h = (if x0 = 0 then Run (d + 1) 184 111 [.inr (.inr (.inl 97)), .inl x0] [] h else (if ¬ (h 97 11) = (-1) then Run (d + 1) 184 111 [.inr (.inr (.inl 97)), .inl x0] [] h else (cV (Run d 187 0 [.inr (.inr (.inl 97)), vU, vU] [] h) fun h3_ => (if ¬ (h3_ 97 11) = (-1) then Run (d + 1) 184 55 [.inr (.inr (.inl 97)), .inl 0] [] h3_ else (cI (Run d 188 0 [.inr (.inr (.inl 97))] [] h3_) fun a6_ h5_ => (if ¬ a6_ = 59 then Run (d + 1) 184 55 [.inr (.inr (.inl 97)), .inl 0] [] h5_ else Run (d + 1) 184 55 [.inr (.inr (.inl 97)), .inl 1] [] (up h5_ 97 10 (wI ((h5_ 97 10) + 1))))))))) := by
  refine (R_iload_n zf184_55 rfl rfl).trans ?_
  refine (R_if_eq (t := 111) zf184_56 rfl rfl).trans ?_
  refine ite_congr rfl (fun c1_ => ?_) (fun c1_ => ?_)
  · rfl
  · refine (R_aload_n zf184_59 rfl zlt_97 rfl).trans ?_
    refine (R_getI zf184_60 zo_184 zfl_12_128 zk1_97 zft_12_11 rfl).trans ?_
    refine (R_iconst zf184_63 zw_m1 rfl).trans ?_
    refine (R_icmp_ne (t := 111) zf184_64 rfl rfl).trans ?_
    refine ite_congr rfl (fun c2_ => ?_) (fun c2_ => ?_)
    · rfl
    · refine (R_aload_n zf184_67 rfl zlt_97 rfl).trans ?_
      refine (R_vcallV zf184_68 zo_184 zvl_12_261 zr_187 zl_187 (Nat.le_of_ble_eq_true rfl) rfl rfl (Nat.le_of_ble_eq_true rfl) (Nat.le_of_ble_eq_true rfl) (es := [.inr (.inr (.inl 97)), vU, vU]) rfl rfl zk1_97 zo_187).trans ?_
      refine congrArg (cV _) (funext fun h3_ => ?_)
      refine (R_aload_n zf184_71 rfl zlt_97 rfl).trans ?_
      refine (R_getI zf184_72 zo_184 zfl_12_128 zk1_97 zft_12_11 rfl).trans ?_
      refine (R_iconst zf184_75 zw_m1 rfl).trans ?_
      refine (R_icmp_ne (t := 92) zf184_76 rfl rfl).trans ?_
      refine ite_congr rfl (fun c4_ => ?_) (fun c4_ => ?_)
      · refine (R_iconst zf184_92 zw_0 rfl).trans ?_
        refine (R_istore_n (ls' := [.inr (.inr (.inl 97)), .inl 0]) zf184_93 (Nat.le_of_ble_eq_true rfl) rfl rfl).trans ?_
        refine (R_iload_n zf184_94 rfl rfl).trans ?_
        refine ((R_if_eq (t := 55) zf184_95 rfl rfl).trans (if_pos (by decide))).trans ?_
        rfl
      · refine (R_aload_n zf184_79 rfl zlt_97 rfl).trans ?_
        refine (R_vcallI zf184_80 zo_184 zvl_12_138 (by rw [zr_188]; rfl) zl_188 (Nat.le_of_ble_eq_true rfl) rfl rfl (Nat.le_of_ble_eq_true rfl) (Nat.le_of_ble_eq_true rfl) (es := [.inr (.inr (.inl 97))]) rfl rfl zk1_97 zo_188).trans ?_
        refine congrArg (cI _) (funext fun a6_ => funext fun h5_ => ?_)
        refine (R_bipush zf184_83 zb_59 rfl).trans ?_
        refine (R_icmp_ne (t := 92) zf184_85 rfl rfl).trans ?_
        refine ite_congr rfl (fun c7_ => ?_) (fun c7_ => ?_)
        · refine (R_iconst zf184_92 zw_0 rfl).trans ?_
          refine (R_istore_n (ls' := [.inr (.inr (.inl 97)), .inl 0]) zf184_93 (Nat.le_of_ble_eq_true rfl) rfl rfl).trans ?_
          refine (R_iload_n zf184_94 rfl rfl).trans ?_
          refine ((R_if_eq (t := 55) zf184_95 rfl rfl).trans (if_pos (by decide))).trans ?_
          rfl
        · refine (R_iconst zf184_88 zw_1 rfl).trans ?_
          refine (R_goto (t := 93) zf184_89 rfl).trans ?_
          refine (R_istore_n (ls' := [.inr (.inr (.inl 97)), .inl 1]) zf184_93 (Nat.le_of_ble_eq_true rfl) rfl rfl).trans ?_
          refine (R_iload_n zf184_94 rfl rfl).trans ?_
          refine ((R_if_eq (t := 55) zf184_95 rfl rfl).trans (if_neg (by decide))).trans ?_
          refine (R_aload_n zf184_98 rfl zlt_97 rfl).trans ?_
          refine (R_dup zf184_99 rfl rfl).trans ?_
          refine (R_getI zf184_100 zo_184 zfl_12_119 zk1_97 zft_12_10 rfl).trans ?_
          refine (R_iconst zf184_103 zw_1 rfl).trans ?_
          refine (R_iadd zf184_104 rfl).trans ?_
          refine (R_putI zf184_105 zo_184 zfl_12_119 zk1_97 zft_12_10 rfl).trans ?_
          refine (R_goto (t := 55) zf184_108 rfl).trans ?_
          rfl
-- CannonPostModel.usual(II)I at 0
theorem q186_0 (d : Nat) (x0 : Int) (x1 : Int) (h : MH) : Run d 186 0 [.inl x0, .inl x1] [] h = (if ¬ x0 = 115 then (if ¬ x0 = 102 then (if ¬ x1 = 0 then (if ¬ x1 = 1 then some (some (.inl 0), h) else some (some (.inl 5), h)) else some (some (.inl 3), h)) else (if ¬ x1 = 2 then some (some (.inl 0), h) else some (some (.inl 2), h))) else (if ¬ x1 = 0 then (if ¬ x1 = 1 then (if ¬ x1 = 2 then some (some (.inl 3), h) else some (some (.inl 50), h)) else some (some (.inl 0), h)) else some (some (.inl 1), h))) := by
  refine (R_iload_n zf186_0 rfl rfl).trans ?_
  refine (R_bipush zf186_1 zb_115 rfl).trans ?_
  refine (R_icmp_ne (t := 35) zf186_3 rfl rfl).trans ?_
  refine ite_congr rfl (fun c1_ => ?_) (fun c1_ => ?_)
  · refine (R_iload_n zf186_35 rfl rfl).trans ?_
    refine (R_bipush zf186_36 zb_102 rfl).trans ?_
    refine (R_icmp_ne (t := 52) zf186_38 rfl rfl).trans ?_
    refine ite_congr rfl (fun c2_ => ?_) (fun c2_ => ?_)
    · refine (R_iload_n zf186_52 rfl rfl).trans ?_
      refine (R_if_ne (t := 60) zf186_53 rfl rfl).trans ?_
      refine ite_congr rfl (fun c3_ => ?_) (fun c3_ => ?_)
      · refine (R_iload_n zf186_60 rfl rfl).trans ?_
        refine (R_iconst zf186_61 zw_1 rfl).trans ?_
        refine (R_icmp_ne (t := 69) zf186_62 rfl rfl).trans ?_
        refine ite_congr rfl (fun c4_ => ?_) (fun c4_ => ?_)
        · refine (R_iconst zf186_69 zw_0 rfl).trans ?_
          exact R_ireturn_i zf186_70 zr_186
        · refine (R_iconst zf186_65 zw_5 rfl).trans ?_
          refine (R_goto (t := 70) zf186_66 rfl).trans ?_
          exact R_ireturn_i zf186_70 zr_186
      · refine (R_iconst zf186_56 zw_3 rfl).trans ?_
        refine (R_goto (t := 70) zf186_57 rfl).trans ?_
        exact R_ireturn_i zf186_70 zr_186
    · refine (R_iload_n zf186_41 rfl rfl).trans ?_
      refine (R_iconst zf186_42 zw_2 rfl).trans ?_
      refine (R_icmp_ne (t := 50) zf186_43 rfl rfl).trans ?_
      refine ite_congr rfl (fun c5_ => ?_) (fun c5_ => ?_)
      · refine (R_iconst zf186_50 zw_0 rfl).trans ?_
        exact R_ireturn_i zf186_51 zr_186
      · refine (R_iconst zf186_46 zw_2 rfl).trans ?_
        refine (R_goto (t := 51) zf186_47 rfl).trans ?_
        exact R_ireturn_i zf186_51 zr_186
  · refine (R_iload_n zf186_6 rfl rfl).trans ?_
    refine (R_if_ne (t := 14) zf186_7 rfl rfl).trans ?_
    refine ite_congr rfl (fun c6_ => ?_) (fun c6_ => ?_)
    · refine (R_iload_n zf186_14 rfl rfl).trans ?_
      refine (R_iconst zf186_15 zw_1 rfl).trans ?_
      refine (R_icmp_ne (t := 23) zf186_16 rfl rfl).trans ?_
      refine ite_congr rfl (fun c7_ => ?_) (fun c7_ => ?_)
      · refine (R_iload_n zf186_23 rfl rfl).trans ?_
        refine (R_iconst zf186_24 zw_2 rfl).trans ?_
        refine (R_icmp_ne (t := 33) zf186_25 rfl rfl).trans ?_
        refine ite_congr rfl (fun c8_ => ?_) (fun c8_ => ?_)
        · refine (R_iconst zf186_33 zw_3 rfl).trans ?_
          exact R_ireturn_i zf186_34 zr_186
        · refine (R_bipush zf186_28 zb_50 rfl).trans ?_
          refine (R_goto (t := 34) zf186_30 rfl).trans ?_
          exact R_ireturn_i zf186_34 zr_186
      · refine (R_iconst zf186_19 zw_0 rfl).trans ?_
        refine (R_goto (t := 34) zf186_20 rfl).trans ?_
        exact R_ireturn_i zf186_34 zr_186
    · refine (R_iconst zf186_10 zw_1 rfl).trans ?_
      refine (R_goto (t := 34) zf186_11 rfl).trans ?_
      exact R_ireturn_i zf186_34 zr_186
-- CannonPostModel.text(I)I at 248
theorem q216_248 (d : Nat) (z0 : MV) (hz0 : cat z0 = 1) (z1 : MV) (hz1 : cat z1 = 1) (x2 : Int) (h : MH) : Run (d + 1) 216 248 [.inr (.inr (.inl 97)), z0, z1, .inl x2] [] h = (if 24 ≤ x2 then Run (d + 1) 216 274 [.inr (.inr (.inl 97)), z0, z1, .inl 0] [] h else (if 0 ≤ x2 ∧ x2 < 24 then (if 0 ≤ x2 ∧ x2 < 24 then Run (d + 1) 216 248 [.inr (.inr (.inl 97)), z0, z1, .inl (wI (x2 + 1))] [] (up h 104 x2.toNat (h 105 x2.toNat)) else none) else none)) := by
  refine (R_iload_n zf216_248 rfl rfl).trans ?_
  refine (R_bipush zf216_249 zb_24 rfl).trans ?_
  refine (R_icmp_ge (t := 272) zf216_251 rfl rfl).trans ?_
  refine ite_congr rfl (fun c1_ => ?_) (fun c1_ => ?_)
  · refine (R_iconst zf216_272 zw_0 rfl).trans ?_
    refine (R_istore_n (ls' := [.inr (.inr (.inl 97)), z0, z1, .inl 0]) zf216_273 (Nat.le_of_ble_eq_true rfl) (st1_z rfl hz1 rfl) rfl).trans ?_
    rfl
  · refine (R_aload_n zf216_254 rfl zlt_97 rfl).trans ?_
    refine (R_getR zf216_255 zo_216 zfl_12_43 zk1_97 zft_12_20 zmr_97_20 rfl).trans ?_
    refine (R_iload_n zf216_258 rfl rfl).trans ?_
    refine (R_aload_n zf216_259 rfl zlt_97 rfl).trans ?_
    refine (R_getR zf216_260 zo_216 zfl_12_46 zk1_97 zft_12_21 zmr_97_21 rfl).trans ?_
    refine (R_iload_n zf216_263 rfl rfl).trans ?_
    refine (R_iald zf216_264 zk_105 rfl).trans ?_
    refine ite_congr rfl (fun c2_ => ?_) (fun _ => rfl)
    refine (R_iast zf216_265 zk_104 rfl).trans ?_
    refine ite_congr rfl (fun c3_ => ?_) (fun _ => rfl)
    refine (R_iinc (ls' := [.inr (.inr (.inl 97)), z0, z1, .inl (wI (x2 + 1))]) zf216_266 rfl (st1_z rfl hz1 rfl) rfl).trans ?_
    refine (R_goto (t := 248) zf216_269 rfl).trans ?_
    rfl
-- CannonPostModel.goHour([I)V at 2
theorem q247_2 (d : Nat) (x0 : Int) (h : MH) : Run (d + 1) 247 2 [.inr (.inr (.inl 97)), .inr (.inr (.inl 110)), .inl x0] [] h = (if (h 97 27) ≤ x0 then Run (d + 1) 247 48 [.inr (.inr (.inl 97)), .inr (.inr (.inl 110)), .inl 0] [] (up h 110 35 (wI ((h 110 35) + 1))) else (cI (Run d 217 0 [.inl x0] [] h) fun a3_ h2_ => (cI (Run d 217 0 [.inl x0] [] h2_) fun a5_ h4_ => (if 0 ≤ (wI (a5_ + 2)) ∧ (wI (a5_ + 2)) < 277 then (if 0 ≤ (wI (a3_ + 2)) ∧ (wI (a3_ + 2)) < 277 then Run (d + 1) 247 2 [.inr (.inr (.inl 97)), .inr (.inr (.inl 110)), .inl (wI (x0 + 1))] [] (up h4_ 110 (wI (a3_ + 2)).toNat (mx 0 (wI ((h4_ 110 (wI (a5_ + 2)).toNat) - 1)))) else none) else none)))) := by
  refine (R_iload_n zf247_2 rfl rfl).trans ?_
  refine (R_aload_n zf247_3 rfl zlt_97 rfl).trans ?_
  refine (R_getI zf247_4 zo_247 zfl_12_297 zk1_97 zft_12_27 rfl).trans ?_
  refine (R_icmp_ge (t := 38) zf247_7 rfl rfl).trans ?_
  refine ite_congr rfl (fun c1_ => ?_) (fun c1_ => ?_)
  · refine (R_aload_n zf247_38 rfl zlt_110 rfl).trans ?_
    refine (R_bipush zf247_39 zb_35 rfl).trans ?_
    refine (R_dup2 zf247_41 rfl rfl rfl).trans ?_
    refine (R_ialdc zf247_42 zk_110 (by decide) rfl rfl).trans ?_
    refine (R_iconst zf247_43 zw_1 rfl).trans ?_
    refine (R_iadd zf247_44 rfl).trans ?_
    refine (R_iastc zf247_45 zk_110 (by decide) rfl rfl).trans ?_
    refine (R_iconst zf247_46 zw_0 rfl).trans ?_
    refine (R_istore_n (ls' := [.inr (.inr (.inl 97)), .inr (.inr (.inl 110)), .inl 0]) zf247_47 (Nat.le_of_ble_eq_true rfl) rfl rfl).trans ?_
    rfl
  · refine (R_aload_n zf247_10 rfl zlt_110 rfl).trans ?_
    refine (R_iload_n zf247_11 rfl rfl).trans ?_
    refine (R_callI zf247_12 zo_247 zsl_12_300 (by rw [zr_217]; rfl) zl_217 (Nat.le_of_ble_eq_true rfl) rfl rfl (Nat.le_of_ble_eq_true rfl) (Nat.le_of_ble_eq_true rfl) (es := [.inl x0]) rfl rfl).trans ?_
    refine congrArg (cI _) (funext fun a3_ => funext fun h2_ => ?_)
    refine (R_iconst zf247_15 zw_2 rfl).trans ?_
    refine (R_iadd zf247_16 rfl).trans ?_
    refine (R_iconst zf247_17 zw_0 rfl).trans ?_
    refine (R_aload_n zf247_18 rfl zlt_110 rfl).trans ?_
    refine (R_iload_n zf247_19 rfl rfl).trans ?_
    refine (R_callI zf247_20 zo_247 zsl_12_300 (by rw [zr_217]; rfl) zl_217 (Nat.le_of_ble_eq_true rfl) rfl rfl (Nat.le_of_ble_eq_true rfl) (Nat.le_of_ble_eq_true rfl) (es := [.inl x0]) rfl rfl).trans ?_
    refine congrArg (cI _) (funext fun a5_ => funext fun h4_ => ?_)
    refine (R_iconst zf247_23 zw_2 rfl).trans ?_
    refine (R_iadd zf247_24 rfl).trans ?_
    refine (R_iald zf247_25 zk_110 rfl).trans ?_
    refine ite_congr rfl (fun c6_ => ?_) (fun _ => rfl)
    refine (R_iconst zf247_26 zw_1 rfl).trans ?_
    refine (R_isub zf247_27 rfl).trans ?_
    refine (R_mmax zf247_28 zo_247 zsl_12_320 zml_12_320 zna_12_320 (Nat.le_of_ble_eq_true rfl) rfl).trans ?_
    refine (R_iast zf247_31 zk_110 rfl).trans ?_
    refine ite_congr rfl (fun c7_ => ?_) (fun _ => rfl)
    refine (R_iinc (ls' := [.inr (.inr (.inl 97)), .inr (.inr (.inl 110)), .inl (wI (x0 + 1))]) zf247_32 rfl rfl rfl).trans ?_
    refine (R_goto (t := 2) zf247_35 rfl).trans ?_
    rfl
-- CannonPostModel.says([II)I at 0
theorem q250_0 (d : Nat) (x0 : Int) (h : MH) : Run (d + 1) 250 0 [.inr (.inr (.inl 97)), .inr (.inr (.inl 110)), .inl x0, vU, vU] [] h = Run (d + 1) 250 5 [.inr (.inr (.inl 97)), .inr (.inr (.inl 110)), .inl x0, .inl 0, .inl 0] [] h := by
  refine (R_iconst zf250_0 zw_0 rfl).trans ?_
  refine (R_istore_n (ls' := [.inr (.inr (.inl 97)), .inr (.inr (.inl 110)), .inl x0, .inl 0, vU]) zf250_1 (Nat.le_of_ble_eq_true rfl) rfl rfl).trans ?_
  refine (R_iconst zf250_2 zw_0 rfl).trans ?_
  refine (R_istore (ls' := [.inr (.inr (.inl 97)), .inr (.inr (.inl 110)), .inl x0, .inl 0, .inl 0]) zf250_3 (Nat.le_of_ble_eq_true rfl) rfl rfl).trans ?_
  rfl
-- CannonPostModel.canShoot([IIII)Z at 0
theorem q227_0_1 (d : Nat) (x0 : Int) (x1 : Int) (x2 : Int) (h : MH) : Run (d + 1) 227 0 [.inr (.inr (.inl 97)), .inr (.inr (.inl 111)), .inl x0, .inl x1, .inl x2] [] h = (cI (Run d 228 0 [.inr (.inr (.inl 97)), .inr (.inr (.inl 111)), .inl x0] [] h) fun a2_ h1_ => (if a2_ = 0 then some (some (.inl 0), h1_) else (cI (Run d 183 0 [.inr (.inl x2), vU, .inr (.inl 0), vU, .inr (.inl 1), vU] [] h1_) fun a5_ h4_ => (if a5_ = 0 then some (some (.inl 0), h4_) else (cI (Run d 183 0 [.inr (.inl x1), vU, .inr (.inl 1), vU, .inr (.inl 20), vU] [] h4_) fun a8_ h7_ => (if a8_ = 0 then some (some (.inl 0), h7_) else (if (h7_ 111 31) < x1 then some (some (.inl 0), h7_) else some (some (.inl 1), h7_)))))))) := by
  refine (R_aload_n zf227_0 rfl zlt_97 rfl).trans ?_
  refine (R_aload_n zf227_1 rfl zlt_111 rfl).trans ?_
  refine (R_iload_n zf227_2 rfl rfl).trans ?_
  refine (R_vcallI zf227_3 zo_227 zvl_12_342 (by rw [zr_228]; rfl) zl_228 (Nat.le_of_ble_eq_true rfl) rfl rfl (Nat.le_of_ble_eq_true rfl) (Nat.le_of_ble_eq_true rfl) (es := [.inr (.inr (.inl 97)), .inr (.inr (.inl 111)), .inl x0]) rfl rfl zk1_97 zo_228).trans ?_
  refine congrArg (cI _) (funext fun a2_ => funext fun h1_ => ?_)
  refine (R_if_eq (t := 44) zf227_6 rfl rfl).trans ?_
  refine ite_congr rfl (fun c3_ => ?_) (fun c3_ => ?_)
  · refine (R_iconst zf227_44 zw_0 rfl).trans ?_
    exact R_ireturn zf227_45 (by rw [zr_227]; rfl)
  · refine (R_iload zf227_9 rfl rfl).trans ?_
    refine (R_i2l zf227_11 rfl).trans ?_
    refine (R_lconst (v := 0) zf227_12 rfl rfl).trans ?_
    refine (R_lconst (v := 1) zf227_13 rfl rfl).trans ?_
    refine (R_callI zf227_14 zo_227 zsl_12_217 (by rw [zr_183]; rfl) zl_183 (Nat.le_of_ble_eq_true rfl) rfl rfl (Nat.le_of_ble_eq_true rfl) (Nat.le_of_ble_eq_true rfl) (es := [.inr (.inl x2), vU, .inr (.inl 0), vU, .inr (.inl 1), vU]) rfl rfl).trans ?_
    refine congrArg (cI _) (funext fun a5_ => funext fun h4_ => ?_)
    refine (R_if_eq (t := 44) zf227_17 rfl rfl).trans ?_
    refine ite_congr rfl (fun c6_ => ?_) (fun c6_ => ?_)
    · refine (R_iconst zf227_44 zw_0 rfl).trans ?_
      exact R_ireturn zf227_45 (by rw [zr_227]; rfl)
    · refine (R_iload_n zf227_20 rfl rfl).trans ?_
      refine (R_i2l zf227_21 rfl).trans ?_
      refine (R_lconst (v := 1) zf227_22 rfl rfl).trans ?_
      refine (R_ldc2_w zf227_23 zo_227 zll_12_346 rfl).trans ?_
      refine (R_callI zf227_26 zo_227 zsl_12_217 (by rw [zr_183]; rfl) zl_183 (Nat.le_of_ble_eq_true rfl) rfl rfl (Nat.le_of_ble_eq_true rfl) (Nat.le_of_ble_eq_true rfl) (es := [.inr (.inl x1), vU, .inr (.inl 1), vU, .inr (.inl 20), vU]) rfl rfl).trans ?_
      refine congrArg (cI _) (funext fun a8_ => funext fun h7_ => ?_)
      refine (R_if_eq (t := 44) zf227_29 rfl rfl).trans ?_
      refine ite_congr rfl (fun c9_ => ?_) (fun c9_ => ?_)
      · refine (R_iconst zf227_44 zw_0 rfl).trans ?_
        exact R_ireturn zf227_45 (by rw [zr_227]; rfl)
      · refine (R_iload_n zf227_32 rfl rfl).trans ?_
        refine (R_aload_n zf227_33 rfl zlt_111 rfl).trans ?_
        refine (R_bipush zf227_34 zb_31 rfl).trans ?_
        refine (R_ialdc zf227_36 zk_111 (by decide) rfl rfl).trans ?_
        refine (R_icmp_gt (t := 44) zf227_37 rfl rfl).trans ?_
        refine ite_congr rfl (fun c10_ => ?_) (fun c10_ => ?_)
        · refine (R_iconst zf227_44 zw_0 rfl).trans ?_
          exact R_ireturn zf227_45 (by rw [zr_227]; rfl)
        · refine (R_iconst zf227_40 zw_1 rfl).trans ?_
          refine (R_goto (t := 45) zf227_41 rfl).trans ?_
          exact R_ireturn zf227_45 (by rw [zr_227]; rfl)
-- CannonPostModel.mayPass([III)Z at 0
theorem q246_0_1 (d : Nat) (x0 : Int) (x1 : Int) (h : MH) : Run (d + 1) 246 0 [.inr (.inr (.inl 97)), .inr (.inr (.inl 111)), .inl x0, .inl x1] [] h = (if (h 97 26) ≤ 0 then some (some (.inl 0), h) else (cI (Run d 183 0 [.inr (.inl x0), vU, .inr (.inl 1), vU, .inr (.inl x1), vU] [] h) fun a3_ h2_ => (if a3_ = 0 then some (some (.inl 0), h2_) else (if 9999 < (wI ((h2_ 111 35) + x0)) then some (some (.inl 0), h2_) else some (some (.inl 1), h2_))))) := by
  refine (R_aload_n zf246_0 rfl zlt_97 rfl).trans ?_
  refine (R_getI zf246_1 zo_246 zfl_12_294 zk1_97 zft_12_26 rfl).trans ?_
  refine (R_if_le (t := 34) zf246_4 rfl rfl).trans ?_
  refine ite_congr rfl (fun c1_ => ?_) (fun c1_ => ?_)
  · refine (R_iconst zf246_34 zw_0 rfl).trans ?_
    exact R_ireturn zf246_35 (by rw [zr_246]; rfl)
  · refine (R_iload_n zf246_7 rfl rfl).trans ?_
    refine (R_i2l zf246_8 rfl).trans ?_
    refine (R_lconst (v := 1) zf246_9 rfl rfl).trans ?_
    refine (R_iload_n zf246_10 rfl rfl).trans ?_
    refine (R_i2l zf246_11 rfl).trans ?_
    refine (R_callI zf246_12 zo_246 zsl_12_217 (by rw [zr_183]; rfl) zl_183 (Nat.le_of_ble_eq_true rfl) rfl rfl (Nat.le_of_ble_eq_true rfl) (Nat.le_of_ble_eq_true rfl) (es := [.inr (.inl x0), vU, .inr (.inl 1), vU, .inr (.inl x1), vU]) rfl rfl).trans ?_
    refine congrArg (cI _) (funext fun a3_ => funext fun h2_ => ?_)
    refine (R_if_eq (t := 34) zf246_15 rfl rfl).trans ?_
    refine ite_congr rfl (fun c4_ => ?_) (fun c4_ => ?_)
    · refine (R_iconst zf246_34 zw_0 rfl).trans ?_
      exact R_ireturn zf246_35 (by rw [zr_246]; rfl)
    · refine (R_aload_n zf246_18 rfl zlt_111 rfl).trans ?_
      refine (R_bipush zf246_19 zb_35 rfl).trans ?_
      refine (R_ialdc zf246_21 zk_111 (by decide) rfl rfl).trans ?_
      refine (R_iload_n zf246_22 rfl rfl).trans ?_
      refine (R_iadd zf246_23 rfl).trans ?_
      refine (R_sipush zf246_24 zs_9999 rfl).trans ?_
      refine (R_icmp_gt (t := 34) zf246_27 rfl rfl).trans ?_
      refine ite_congr rfl (fun c5_ => ?_) (fun c5_ => ?_)
      · refine (R_iconst zf246_34 zw_0 rfl).trans ?_
        exact R_ireturn zf246_35 (by rw [zr_246]; rfl)
      · refine (R_iconst zf246_30 zw_1 rfl).trans ?_
        refine (R_goto (t := 35) zf246_31 rfl).trans ?_
        exact R_ireturn zf246_35 (by rw [zr_246]; rfl)
-- CannonPostModel.canBlow([III)Z at 0
theorem q242_0_1 (d : Nat) (x0 : Int) (x1 : Int) (h : MH) : Run (d + 1) 242 0 [.inr (.inr (.inl 97)), .inr (.inr (.inl 111)), .inl x0, .inl x1] [] h = (if (h 97 26) ≤ 0 then some (some (.inl 0), h) else (cI (Run d 183 0 [.inr (.inl x0), vU, .inr (.inl 0), vU, .inr (.inl 9), vU] [] h) fun a3_ h2_ => (if a3_ = 0 then some (some (.inl 0), h2_) else (cI (Run d 183 0 [.inr (.inl x1), vU, .inr (.inl 0), vU, .inr (.inl 1), vU] [] h2_) fun a6_ h5_ => (if a6_ = 0 then some (some (.inl 0), h5_) else (if ¬ (h5_ 111 32) = x0 then some (some (.inl 1), h5_) else (if (h5_ 111 33) = x1 then some (some (.inl 0), h5_) else some (some (.inl 1), h5_)))))))) := by
  refine (R_aload_n zf242_0 rfl zlt_97 rfl).trans ?_
  refine (R_getI zf242_1 zo_242 zfl_12_294 zk1_97 zft_12_26 rfl).trans ?_
  refine (R_if_le (t := 49) zf242_4 rfl rfl).trans ?_
  refine ite_congr rfl (fun c1_ => ?_) (fun c1_ => ?_)
  · refine (R_iconst zf242_49 zw_0 rfl).trans ?_
    exact R_ireturn zf242_50 (by rw [zr_242]; rfl)
  · refine (R_iload_n zf242_7 rfl rfl).trans ?_
    refine (R_i2l zf242_8 rfl).trans ?_
    refine (R_lconst (v := 0) zf242_9 rfl rfl).trans ?_
    refine (R_ldc2_w zf242_10 zo_242 zll_12_367 rfl).trans ?_
    refine (R_callI zf242_13 zo_242 zsl_12_217 (by rw [zr_183]; rfl) zl_183 (Nat.le_of_ble_eq_true rfl) rfl rfl (Nat.le_of_ble_eq_true rfl) (Nat.le_of_ble_eq_true rfl) (es := [.inr (.inl x0), vU, .inr (.inl 0), vU, .inr (.inl 9), vU]) rfl rfl).trans ?_
    refine congrArg (cI _) (funext fun a3_ => funext fun h2_ => ?_)
    refine (R_if_eq (t := 49) zf242_16 rfl rfl).trans ?_
    refine ite_congr rfl (fun c4_ => ?_) (fun c4_ => ?_)
    · refine (R_iconst zf242_49 zw_0 rfl).trans ?_
      exact R_ireturn zf242_50 (by rw [zr_242]; rfl)
    · refine (R_iload_n zf242_19 rfl rfl).trans ?_
      refine (R_i2l zf242_20 rfl).trans ?_
      refine (R_lconst (v := 0) zf242_21 rfl rfl).trans ?_
      refine (R_lconst (v := 1) zf242_22 rfl rfl).trans ?_
      refine (R_callI zf242_23 zo_242 zsl_12_217 (by rw [zr_183]; rfl) zl_183 (Nat.le_of_ble_eq_true rfl) rfl rfl (Nat.le_of_ble_eq_true rfl) (Nat.le_of_ble_eq_true rfl) (es := [.inr (.inl x1), vU, .inr (.inl 0), vU, .inr (.inl 1), vU]) rfl rfl).trans ?_
      refine congrArg (cI _) (funext fun a6_ => funext fun h5_ => ?_)
      refine (R_if_eq (t := 49) zf242_26 rfl rfl).trans ?_
      refine ite_congr rfl (fun c7_ => ?_) (fun c7_ => ?_)
      · refine (R_iconst zf242_49 zw_0 rfl).trans ?_
        exact R_ireturn zf242_50 (by rw [zr_242]; rfl)
      · refine (R_aload_n zf242_29 rfl zlt_111 rfl).trans ?_
        refine (R_bipush zf242_30 zb_32 rfl).trans ?_
        refine (R_ialdc zf242_32 zk_111 (by decide) rfl rfl).trans ?_
        refine (R_iload_n zf242_33 rfl rfl).trans ?_
        refine (R_icmp_ne (t := 45) zf242_34 rfl rfl).trans ?_
        refine ite_congr rfl (fun c8_ => ?_) (fun c8_ => ?_)
        · refine (R_iconst zf242_45 zw_1 rfl).trans ?_
          refine (R_goto (t := 50) zf242_46 rfl).trans ?_
          exact R_ireturn zf242_50 (by rw [zr_242]; rfl)
        · refine (R_aload_n zf242_37 rfl zlt_111 rfl).trans ?_
          refine (R_bipush zf242_38 zb_33 rfl).trans ?_
          refine (R_ialdc zf242_40 zk_111 (by decide) rfl rfl).trans ?_
          refine (R_iload_n zf242_41 rfl rfl).trans ?_
          refine (R_icmp_eq (t := 49) zf242_42 rfl rfl).trans ?_
          refine ite_congr rfl (fun c9_ => ?_) (fun c9_ => ?_)
          · refine (R_iconst zf242_49 zw_0 rfl).trans ?_
            exact R_ireturn zf242_50 (by rw [zr_242]; rfl)
          · refine (R_iconst zf242_45 zw_1 rfl).trans ?_
            refine (R_goto (t := 50) zf242_46 rfl).trans ?_
            exact R_ireturn zf242_50 (by rw [zr_242]; rfl)
-- CannonPostModel.canHear([III)Z at 0
theorem q238_0_1 (d : Nat) (x0 : Int) (x1 : Int) (h : MH) : Run (d + 1) 238 0 [.inr (.inr (.inl 97)), .inr (.inr (.inl 111)), .inl x0, .inl x1] [] h = (cI (Run d 220 0 [.inr (.inr (.inl 97)), .inl x0] [] h) fun a2_ h1_ => (if a2_ = 0 then some (some (.inl 0), h1_) else (cI (Run d 183 0 [.inr (.inl x1), vU, .inr (.inl 0), vU, .inr (.inl 5), vU] [] h1_) fun a5_ h4_ => (if a5_ = 0 then some (some (.inl 0), h4_) else (if 0 ≤ (wI (8 + x0)) ∧ (wI (8 + x0)) < 277 then (cI (Run d 192 0 [.inl (h4_ 111 (wI (8 + x0)).toNat), .inl x1] [] h4_) fun a9_ h8_ => (if ¬ a9_ = 0 then some (some (.inl 0), h8_) else some (some (.inl 1), h8_))) else none))))) := by
  refine (R_aload_n zf238_0 rfl zlt_97 rfl).trans ?_
  refine (R_iload_n zf238_1 rfl rfl).trans ?_
  refine (R_vcallI zf238_2 zo_238 zvl_12_362 (by rw [zr_220]; rfl) zl_220 (Nat.le_of_ble_eq_true rfl) rfl rfl (Nat.le_of_ble_eq_true rfl) (Nat.le_of_ble_eq_true rfl) (es := [.inr (.inr (.inl 97)), .inl x0]) rfl rfl zk1_97 zo_220).trans ?_
  refine congrArg (cI _) (funext fun a2_ => funext fun h1_ => ?_)
  refine (R_if_eq (t := 37) zf238_5 rfl rfl).trans ?_
  refine ite_congr rfl (fun c3_ => ?_) (fun c3_ => ?_)
  · refine (R_iconst zf238_37 zw_0 rfl).trans ?_
    exact R_ireturn zf238_38 (by rw [zr_238]; rfl)
  · refine (R_iload_n zf238_8 rfl rfl).trans ?_
    refine (R_i2l zf238_9 rfl).trans ?_
    refine (R_lconst (v := 0) zf238_10 rfl rfl).trans ?_
    refine (R_ldc2_w zf238_11 zo_238 zll_12_384 rfl).trans ?_
    refine (R_callI zf238_14 zo_238 zsl_12_217 (by rw [zr_183]; rfl) zl_183 (Nat.le_of_ble_eq_true rfl) rfl rfl (Nat.le_of_ble_eq_true rfl) (Nat.le_of_ble_eq_true rfl) (es := [.inr (.inl x1), vU, .inr (.inl 0), vU, .inr (.inl 5), vU]) rfl rfl).trans ?_
    refine congrArg (cI _) (funext fun a5_ => funext fun h4_ => ?_)
    refine (R_if_eq (t := 37) zf238_17 rfl rfl).trans ?_
    refine ite_congr rfl (fun c6_ => ?_) (fun c6_ => ?_)
    · refine (R_iconst zf238_37 zw_0 rfl).trans ?_
      exact R_ireturn zf238_38 (by rw [zr_238]; rfl)
    · refine (R_aload_n zf238_20 rfl zlt_111 rfl).trans ?_
      refine (R_bipush zf238_21 zb_8 rfl).trans ?_
      refine (R_iload_n zf238_23 rfl rfl).trans ?_
      refine (R_iadd zf238_24 rfl).trans ?_
      refine (R_iald zf238_25 zk_111 rfl).trans ?_
      refine ite_congr rfl (fun c7_ => ?_) (fun _ => rfl)
      refine (R_iload_n zf238_26 rfl rfl).trans ?_
      refine (R_callI zf238_27 zo_238 zsl_12_229 (by rw [zr_192]; rfl) zl_192 (Nat.le_of_ble_eq_true rfl) rfl rfl (Nat.le_of_ble_eq_true rfl) (Nat.le_of_ble_eq_true rfl) (es := [.inl (h4_ 111 (wI (8 + x0)).toNat), .inl x1]) rfl rfl).trans ?_
      refine congrArg (cI _) (funext fun a9_ => funext fun h8_ => ?_)
      refine (R_if_ne (t := 37) zf238_30 rfl rfl).trans ?_
      refine ite_congr rfl (fun c10_ => ?_) (fun c10_ => ?_)
      · refine (R_iconst zf238_37 zw_0 rfl).trans ?_
        exact R_ireturn zf238_38 (by rw [zr_238]; rfl)
      · refine (R_iconst zf238_33 zw_1 rfl).trans ?_
        refine (R_goto (t := 38) zf238_34 rfl).trans ?_
        exact R_ireturn zf238_38 (by rw [zr_238]; rfl)
-- CannonPostModel.timesOf(I)I at 0
theorem q258_0 (d : Nat) (x0 : Int) (h : MH) : Run d 258 0 [.inr (.inr (.inl 97)), .inl x0] [] h = (if 0 ≤ x0 ∧ x0 < 320 then (if ¬ (h 108 x0.toNat) = 1 then some (some (.inl 1), h) else (if 0 ≤ (wI (x0 + 1)) ∧ (wI (x0 + 1)) < 320 then some (some (.inl (h 108 (wI (x0 + 1)).toNat)), h) else none)) else none) := by
  refine (R_aload_n zf258_0 rfl zlt_97 rfl).trans ?_
  refine (R_getR zf258_1 zo_258 zfl_12_55 zk1_97 zft_12_24 zmr_97_24 rfl).trans ?_
  refine (R_iload_n zf258_4 rfl rfl).trans ?_
  refine (R_iald zf258_5 zk_108 rfl).trans ?_
  refine ite_congr rfl (fun c1_ => ?_) (fun _ => rfl)
  refine (R_iconst zf258_6 zw_1 rfl).trans ?_
  refine (R_icmp_ne (t := 21) zf258_7 rfl rfl).trans ?_
  refine ite_congr rfl (fun c2_ => ?_) (fun c2_ => ?_)
  · refine (R_iconst zf258_21 zw_1 rfl).trans ?_
    exact R_ireturn_i zf258_22 zr_258
  · refine (R_aload_n zf258_10 rfl zlt_97 rfl).trans ?_
    refine (R_getR zf258_11 zo_258 zfl_12_55 zk1_97 zft_12_24 zmr_97_24 rfl).trans ?_
    refine (R_iload_n zf258_14 rfl rfl).trans ?_
    refine (R_iconst zf258_15 zw_1 rfl).trans ?_
    refine (R_iadd zf258_16 rfl).trans ?_
    refine (R_iald zf258_17 zk_108 rfl).trans ?_
    refine ite_congr rfl (fun c3_ => ?_) (fun _ => rfl)
    refine (R_goto (t := 22) zf258_18 rfl).trans ?_
    exact R_ireturn_i zf258_22 zr_258
-- CannonPostModel.steps([II)V at 0
theorem q259_0 (d : Nat) (x0 : Int) (h : MH) : Run (d + 1) 259 0 [.inr (.inr (.inl 97)), .inr (.inr (.inl 111)), .inl x0, vU, vU, vU] [] h = (if 0 ≤ (wI (x0 + 1)) ∧ (wI (x0 + 1)) < 320 then (if 0 ≤ (wI (x0 + 2)) ∧ (wI (x0 + 2)) < 320 then (if 0 ≤ x0 ∧ x0 < 320 then (if (h 108 x0.toNat) = 0 then (if 0 ≤ (wI (x0 + 3)) ∧ (wI (x0 + 3)) < 320 then (cI (Run d 250 0 [.inr (.inr (.inl 97)), .inr (.inr (.inl 111)), .inl (h 108 (wI (x0 + 1)).toNat), vU, vU] [] h) fun a7_ h6_ => (cI (Run d 230 0 [.inr (.inr (.inl 97)), .inr (.inr (.inl 111)), .inl (h 108 (wI (x0 + 1)).toNat), .inl (h 108 (wI (x0 + 3)).toNat), .inl (h 108 (wI (x0 + 2)).toNat), .inl a7_, vU, vU, vU] [] h6_) fun a9_ h8_ => some (none, h8_))) else none) else (if (h 108 x0.toNat) = 1 then (cV (Run d 247 0 [.inr (.inr (.inl 97)), .inr (.inr (.inl 111)), vU] [] h) fun h11_ => some (none, h11_)) else (if (h 108 x0.toNat) = 2 then (cV (Run d 243 0 [.inr (.inr (.inl 111)), .inl (h 108 (wI (x0 + 1)).toNat), .inl (h 108 (wI (x0 + 2)).toNat)] [] h) fun h13_ => some (none, h13_)) else (if 0 ≤ (wI (8 + (h 108 (wI (x0 + 1)).toNat))) ∧ (wI (8 + (h 108 (wI (x0 + 1)).toNat))) < 277 then (if 0 ≤ (wI (8 + (h 108 (wI (x0 + 1)).toNat))) ∧ (wI (8 + (h 108 (wI (x0 + 1)).toNat))) < 277 then some (none, (up h 111 (wI (8 + (h 108 (wI (x0 + 1)).toNat))).toNat (iOr (h 111 (wI (8 + (h 108 (wI (x0 + 1)).toNat))).toNat) (iShl 1 (h 108 (wI (x0 + 2)).toNat))))) else none) else none)))) else none) else none) else none) := by
  refine (R_aload_n zf259_0 rfl zlt_97 rfl).trans ?_
  refine (R_getR zf259_1 zo_259 zfl_12_55 zk1_97 zft_12_24 zmr_97_24 rfl).trans ?_
  refine (R_iload_n zf259_4 rfl rfl).trans ?_
  refine (R_iconst zf259_5 zw_1 rfl).trans ?_
  refine (R_iadd zf259_6 rfl).trans ?_
  refine (R_iald zf259_7 zk_108 rfl).trans ?_
  refine ite_congr rfl (fun c1_ => ?_) (fun _ => rfl)
  refine (R_istore_n (ls' := [.inr (.inr (.inl 97)), .inr (.inr (.inl 111)), .inl x0, .inl (h 108 (wI (x0 + 1)).toNat), vU, vU]) zf259_8 (Nat.le_of_ble_eq_true rfl) rfl rfl).trans ?_
  refine (R_aload_n zf259_9 rfl zlt_97 rfl).trans ?_
  refine (R_getR zf259_10 zo_259 zfl_12_55 zk1_97 zft_12_24 zmr_97_24 rfl).trans ?_
  refine (R_iload_n zf259_13 rfl rfl).trans ?_
  refine (R_iconst zf259_14 zw_2 rfl).trans ?_
  refine (R_iadd zf259_15 rfl).trans ?_
  refine (R_iald zf259_16 zk_108 rfl).trans ?_
  refine ite_congr rfl (fun c2_ => ?_) (fun _ => rfl)
  refine (R_istore (ls' := [.inr (.inr (.inl 97)), .inr (.inr (.inl 111)), .inl x0, .inl (h 108 (wI (x0 + 1)).toNat), .inl (h 108 (wI (x0 + 2)).toNat), vU]) zf259_17 (Nat.le_of_ble_eq_true rfl) rfl rfl).trans ?_
  refine (R_aload_n zf259_19 rfl zlt_97 rfl).trans ?_
  refine (R_getR zf259_20 zo_259 zfl_12_55 zk1_97 zft_12_24 zmr_97_24 rfl).trans ?_
  refine (R_iload_n zf259_23 rfl rfl).trans ?_
  refine (R_iald zf259_24 zk_108 rfl).trans ?_
  refine ite_congr rfl (fun c3_ => ?_) (fun _ => rfl)
  refine (switch_if (c := (h 108 x0.toNat) = 0) (fun c4_ => ?_) (fun c4_ => ?_))
  · refine (R_tsw (t := 52) zf259_25 (by omega) (by rw [c4_]; rfl) rfl).trans ?_
    refine (R_aload_n zf259_52 rfl zlt_97 rfl).trans ?_
    refine (R_aload_n zf259_53 rfl zlt_111 rfl).trans ?_
    refine (R_iload_n zf259_54 rfl rfl).trans ?_
    refine (R_aload_n zf259_55 rfl zlt_97 rfl).trans ?_
    refine (R_getR zf259_56 zo_259 zfl_12_55 zk1_97 zft_12_24 zmr_97_24 rfl).trans ?_
    refine (R_iload_n zf259_59 rfl rfl).trans ?_
    refine (R_iconst zf259_60 zw_3 rfl).trans ?_
    refine (R_iadd zf259_61 rfl).trans ?_
    refine (R_iald zf259_62 zk_108 rfl).trans ?_
    refine ite_congr rfl (fun c5_ => ?_) (fun _ => rfl)
    refine (R_iload zf259_63 rfl rfl).trans ?_
    refine (R_aload_n zf259_65 rfl zlt_97 rfl).trans ?_
    refine (R_aload_n zf259_66 rfl zlt_111 rfl).trans ?_
    refine (R_iload_n zf259_67 rfl rfl).trans ?_
    refine (R_vcallI zf259_68 zo_259 zvl_12_417 (by rw [zr_250]; rfl) zl_250 (Nat.le_of_ble_eq_true rfl) rfl rfl (Nat.le_of_ble_eq_true rfl) (Nat.le_of_ble_eq_true rfl) (es := [.inr (.inr (.inl 97)), .inr (.inr (.inl 111)), .inl (h 108 (wI (x0 + 1)).toNat), vU, vU]) rfl rfl zk1_97 zo_250).trans ?_
    refine congrArg (cI _) (funext fun a7_ => funext fun h6_ => ?_)
    refine (R_vcallI zf259_71 zo_259 zvl_12_381 (by rw [zr_230]; rfl) zl_230 (Nat.le_of_ble_eq_true rfl) rfl rfl (Nat.le_of_ble_eq_true rfl) (Nat.le_of_ble_eq_true rfl) (es := [.inr (.inr (.inl 97)), .inr (.inr (.inl 111)), .inl (h 108 (wI (x0 + 1)).toNat), .inl (h 108 (wI (x0 + 3)).toNat), .inl (h 108 (wI (x0 + 2)).toNat), .inl a7_, vU, vU, vU]) rfl rfl zk1_97 zo_230).trans ?_
    refine congrArg (cI _) (funext fun a9_ => funext fun h8_ => ?_)
    refine (R_istore (ls' := [.inr (.inr (.inl 97)), .inr (.inr (.inl 111)), .inl x0, .inl (h 108 (wI (x0 + 1)).toNat), .inl (h 108 (wI (x0 + 2)).toNat), .inl a9_]) zf259_74 (Nat.le_of_ble_eq_true rfl) rfl rfl).trans ?_
    refine (R_goto (t := 110) zf259_76 rfl).trans ?_
    exact R_return zf259_110 zr_259
  refine (switch_if (c := (h 108 x0.toNat) = 1) (fun c10_ => ?_) (fun c10_ => ?_))
  · refine (R_tsw (t := 79) zf259_25 (by omega) (by rw [c10_]; rfl) rfl).trans ?_
    refine (R_aload_n zf259_79 rfl zlt_97 rfl).trans ?_
    refine (R_aload_n zf259_80 rfl zlt_111 rfl).trans ?_
    refine (R_vcallV zf259_81 zo_259 zvl_12_402 zr_247 zl_247 (Nat.le_of_ble_eq_true rfl) rfl rfl (Nat.le_of_ble_eq_true rfl) (Nat.le_of_ble_eq_true rfl) (es := [.inr (.inr (.inl 97)), .inr (.inr (.inl 111)), vU]) rfl rfl zk1_97 zo_247).trans ?_
    refine congrArg (cV _) (funext fun h11_ => ?_)
    refine (R_goto (t := 110) zf259_84 rfl).trans ?_
    exact R_return zf259_110 zr_259
  refine (switch_if (c := (h 108 x0.toNat) = 2) (fun c12_ => ?_) (fun c12_ => ?_))
  · refine (R_tsw (t := 87) zf259_25 (by omega) (by rw [c12_]; rfl) rfl).trans ?_
    refine (R_aload_n zf259_87 rfl zlt_111 rfl).trans ?_
    refine (R_iload_n zf259_88 rfl rfl).trans ?_
    refine (R_iload zf259_89 rfl rfl).trans ?_
    refine (R_callV zf259_91 zo_259 zsl_12_395 zr_243 zl_243 (Nat.le_of_ble_eq_true rfl) rfl rfl (Nat.le_of_ble_eq_true rfl) (Nat.le_of_ble_eq_true rfl) (es := [.inr (.inr (.inl 111)), .inl (h 108 (wI (x0 + 1)).toNat), .inl (h 108 (wI (x0 + 2)).toNat)]) rfl rfl).trans ?_
    refine congrArg (cV _) (funext fun h13_ => ?_)
    refine (R_goto (t := 110) zf259_94 rfl).trans ?_
    exact R_return zf259_110 zr_259
  refine (R_tswD (t := 97) zf259_25 (by omega) rfl).trans ?_
  refine (R_aload_n zf259_97 rfl zlt_111 rfl).trans ?_
  refine (R_bipush zf259_98 zb_8 rfl).trans ?_
  refine (R_iload_n zf259_100 rfl rfl).trans ?_
  refine (R_iadd zf259_101 rfl).trans ?_
  refine (R_dup2 zf259_102 rfl rfl rfl).trans ?_
  refine (R_iald zf259_103 zk_111 rfl).trans ?_
  refine ite_congr rfl (fun c14_ => ?_) (fun _ => rfl)
  refine (R_iconst zf259_104 zw_1 rfl).trans ?_
  refine (R_iload zf259_105 rfl rfl).trans ?_
  refine (R_ishl zf259_107 rfl).trans ?_
  refine (R_ior zf259_108 rfl).trans ?_
  refine (R_iast zf259_109 zk_111 rfl).trans ?_
  refine ite_congr rfl (fun c15_ => ?_) (fun _ => rfl)
  exact R_return zf259_110 zr_259
-- CannonPostModel.steps([II)V at 0
theorem q259_0_1 (d : Nat) (x0 : Int) (h : MH) : Run (d + 1) 259 0 [.inr (.inr (.inl 97)), .inr (.inr (.inl 110)), .inl x0, vU, vU, vU] [] h = (if 0 ≤ (wI (x0 + 1)) ∧ (wI (x0 + 1)) < 320 then (if 0 ≤ (wI (x0 + 2)) ∧ (wI (x0 + 2)) < 320 then (if 0 ≤ x0 ∧ x0 < 320 then (if (h 108 x0.toNat) = 0 then (if 0 ≤ (wI (x0 + 3)) ∧ (wI (x0 + 3)) < 320 then (cI (Run d 250 0 [.inr (.inr (.inl 97)), .inr (.inr (.inl 110)), .inl (h 108 (wI (x0 + 1)).toNat), vU, vU] [] h) fun a7_ h6_ => (cI (Run d 230 0 [.inr (.inr (.inl 97)), .inr (.inr (.inl 110)), .inl (h 108 (wI (x0 + 1)).toNat), .inl (h 108 (wI (x0 + 3)).toNat), .inl (h 108 (wI (x0 + 2)).toNat), .inl a7_, vU, vU, vU] [] h6_) fun a9_ h8_ => some (none, h8_))) else none) else (if (h 108 x0.toNat) = 1 then (cV (Run d 247 0 [.inr (.inr (.inl 97)), .inr (.inr (.inl 110)), vU] [] h) fun h11_ => some (none, h11_)) else (if (h 108 x0.toNat) = 2 then (cV (Run d 243 0 [.inr (.inr (.inl 110)), .inl (h 108 (wI (x0 + 1)).toNat), .inl (h 108 (wI (x0 + 2)).toNat)] [] h) fun h13_ => some (none, h13_)) else (if 0 ≤ (wI (8 + (h 108 (wI (x0 + 1)).toNat))) ∧ (wI (8 + (h 108 (wI (x0 + 1)).toNat))) < 277 then (if 0 ≤ (wI (8 + (h 108 (wI (x0 + 1)).toNat))) ∧ (wI (8 + (h 108 (wI (x0 + 1)).toNat))) < 277 then some (none, (up h 110 (wI (8 + (h 108 (wI (x0 + 1)).toNat))).toNat (iOr (h 110 (wI (8 + (h 108 (wI (x0 + 1)).toNat))).toNat) (iShl 1 (h 108 (wI (x0 + 2)).toNat))))) else none) else none)))) else none) else none) else none) := by
  refine (R_aload_n zf259_0 rfl zlt_97 rfl).trans ?_
  refine (R_getR zf259_1 zo_259 zfl_12_55 zk1_97 zft_12_24 zmr_97_24 rfl).trans ?_
  refine (R_iload_n zf259_4 rfl rfl).trans ?_
  refine (R_iconst zf259_5 zw_1 rfl).trans ?_
  refine (R_iadd zf259_6 rfl).trans ?_
  refine (R_iald zf259_7 zk_108 rfl).trans ?_
  refine ite_congr rfl (fun c1_ => ?_) (fun _ => rfl)
  refine (R_istore_n (ls' := [.inr (.inr (.inl 97)), .inr (.inr (.inl 110)), .inl x0, .inl (h 108 (wI (x0 + 1)).toNat), vU, vU]) zf259_8 (Nat.le_of_ble_eq_true rfl) rfl rfl).trans ?_
  refine (R_aload_n zf259_9 rfl zlt_97 rfl).trans ?_
  refine (R_getR zf259_10 zo_259 zfl_12_55 zk1_97 zft_12_24 zmr_97_24 rfl).trans ?_
  refine (R_iload_n zf259_13 rfl rfl).trans ?_
  refine (R_iconst zf259_14 zw_2 rfl).trans ?_
  refine (R_iadd zf259_15 rfl).trans ?_
  refine (R_iald zf259_16 zk_108 rfl).trans ?_
  refine ite_congr rfl (fun c2_ => ?_) (fun _ => rfl)
  refine (R_istore (ls' := [.inr (.inr (.inl 97)), .inr (.inr (.inl 110)), .inl x0, .inl (h 108 (wI (x0 + 1)).toNat), .inl (h 108 (wI (x0 + 2)).toNat), vU]) zf259_17 (Nat.le_of_ble_eq_true rfl) rfl rfl).trans ?_
  refine (R_aload_n zf259_19 rfl zlt_97 rfl).trans ?_
  refine (R_getR zf259_20 zo_259 zfl_12_55 zk1_97 zft_12_24 zmr_97_24 rfl).trans ?_
  refine (R_iload_n zf259_23 rfl rfl).trans ?_
  refine (R_iald zf259_24 zk_108 rfl).trans ?_
  refine ite_congr rfl (fun c3_ => ?_) (fun _ => rfl)
  refine (switch_if (c := (h 108 x0.toNat) = 0) (fun c4_ => ?_) (fun c4_ => ?_))
  · refine (R_tsw (t := 52) zf259_25 (by omega) (by rw [c4_]; rfl) rfl).trans ?_
    refine (R_aload_n zf259_52 rfl zlt_97 rfl).trans ?_
    refine (R_aload_n zf259_53 rfl zlt_110 rfl).trans ?_
    refine (R_iload_n zf259_54 rfl rfl).trans ?_
    refine (R_aload_n zf259_55 rfl zlt_97 rfl).trans ?_
    refine (R_getR zf259_56 zo_259 zfl_12_55 zk1_97 zft_12_24 zmr_97_24 rfl).trans ?_
    refine (R_iload_n zf259_59 rfl rfl).trans ?_
    refine (R_iconst zf259_60 zw_3 rfl).trans ?_
    refine (R_iadd zf259_61 rfl).trans ?_
    refine (R_iald zf259_62 zk_108 rfl).trans ?_
    refine ite_congr rfl (fun c5_ => ?_) (fun _ => rfl)
    refine (R_iload zf259_63 rfl rfl).trans ?_
    refine (R_aload_n zf259_65 rfl zlt_97 rfl).trans ?_
    refine (R_aload_n zf259_66 rfl zlt_110 rfl).trans ?_
    refine (R_iload_n zf259_67 rfl rfl).trans ?_
    refine (R_vcallI zf259_68 zo_259 zvl_12_417 (by rw [zr_250]; rfl) zl_250 (Nat.le_of_ble_eq_true rfl) rfl rfl (Nat.le_of_ble_eq_true rfl) (Nat.le_of_ble_eq_true rfl) (es := [.inr (.inr (.inl 97)), .inr (.inr (.inl 110)), .inl (h 108 (wI (x0 + 1)).toNat), vU, vU]) rfl rfl zk1_97 zo_250).trans ?_
    refine congrArg (cI _) (funext fun a7_ => funext fun h6_ => ?_)
    refine (R_vcallI zf259_71 zo_259 zvl_12_381 (by rw [zr_230]; rfl) zl_230 (Nat.le_of_ble_eq_true rfl) rfl rfl (Nat.le_of_ble_eq_true rfl) (Nat.le_of_ble_eq_true rfl) (es := [.inr (.inr (.inl 97)), .inr (.inr (.inl 110)), .inl (h 108 (wI (x0 + 1)).toNat), .inl (h 108 (wI (x0 + 3)).toNat), .inl (h 108 (wI (x0 + 2)).toNat), .inl a7_, vU, vU, vU]) rfl rfl zk1_97 zo_230).trans ?_
    refine congrArg (cI _) (funext fun a9_ => funext fun h8_ => ?_)
    refine (R_istore (ls' := [.inr (.inr (.inl 97)), .inr (.inr (.inl 110)), .inl x0, .inl (h 108 (wI (x0 + 1)).toNat), .inl (h 108 (wI (x0 + 2)).toNat), .inl a9_]) zf259_74 (Nat.le_of_ble_eq_true rfl) rfl rfl).trans ?_
    refine (R_goto (t := 110) zf259_76 rfl).trans ?_
    exact R_return zf259_110 zr_259
  refine (switch_if (c := (h 108 x0.toNat) = 1) (fun c10_ => ?_) (fun c10_ => ?_))
  · refine (R_tsw (t := 79) zf259_25 (by omega) (by rw [c10_]; rfl) rfl).trans ?_
    refine (R_aload_n zf259_79 rfl zlt_97 rfl).trans ?_
    refine (R_aload_n zf259_80 rfl zlt_110 rfl).trans ?_
    refine (R_vcallV zf259_81 zo_259 zvl_12_402 zr_247 zl_247 (Nat.le_of_ble_eq_true rfl) rfl rfl (Nat.le_of_ble_eq_true rfl) (Nat.le_of_ble_eq_true rfl) (es := [.inr (.inr (.inl 97)), .inr (.inr (.inl 110)), vU]) rfl rfl zk1_97 zo_247).trans ?_
    refine congrArg (cV _) (funext fun h11_ => ?_)
    refine (R_goto (t := 110) zf259_84 rfl).trans ?_
    exact R_return zf259_110 zr_259
  refine (switch_if (c := (h 108 x0.toNat) = 2) (fun c12_ => ?_) (fun c12_ => ?_))
  · refine (R_tsw (t := 87) zf259_25 (by omega) (by rw [c12_]; rfl) rfl).trans ?_
    refine (R_aload_n zf259_87 rfl zlt_110 rfl).trans ?_
    refine (R_iload_n zf259_88 rfl rfl).trans ?_
    refine (R_iload zf259_89 rfl rfl).trans ?_
    refine (R_callV zf259_91 zo_259 zsl_12_395 zr_243 zl_243 (Nat.le_of_ble_eq_true rfl) rfl rfl (Nat.le_of_ble_eq_true rfl) (Nat.le_of_ble_eq_true rfl) (es := [.inr (.inr (.inl 110)), .inl (h 108 (wI (x0 + 1)).toNat), .inl (h 108 (wI (x0 + 2)).toNat)]) rfl rfl).trans ?_
    refine congrArg (cV _) (funext fun h13_ => ?_)
    refine (R_goto (t := 110) zf259_94 rfl).trans ?_
    exact R_return zf259_110 zr_259
  refine (R_tswD (t := 97) zf259_25 (by omega) rfl).trans ?_
  refine (R_aload_n zf259_97 rfl zlt_110 rfl).trans ?_
  refine (R_bipush zf259_98 zb_8 rfl).trans ?_
  refine (R_iload_n zf259_100 rfl rfl).trans ?_
  refine (R_iadd zf259_101 rfl).trans ?_
  refine (R_dup2 zf259_102 rfl rfl rfl).trans ?_
  refine (R_iald zf259_103 zk_110 rfl).trans ?_
  refine ite_congr rfl (fun c14_ => ?_) (fun _ => rfl)
  refine (R_iconst zf259_104 zw_1 rfl).trans ?_
  refine (R_iload zf259_105 rfl rfl).trans ?_
  refine (R_ishl zf259_107 rfl).trans ?_
  refine (R_ior zf259_108 rfl).trans ?_
  refine (R_iast zf259_109 zk_110 rfl).trans ?_
  refine ite_congr rfl (fun c15_ => ?_) (fun _ => rfl)
  exact R_return zf259_110 zr_259
-- CannonPostModel.reach(IIIII)I at 0
theorem q233_0 (d : Nat) (x0 : Int) (x1 : Int) (x2 : Int) (x3 : Int) (x4 : Int) (h : MH) : Run (d + 1) 233 0 [.inr (.inr (.inl 97)), .inl x0, .inl x1, .inl x2, .inl x3, .inl x4, vU] [] h = (cI (Run d 223 0 [.inr (.inr (.inl 97)), .inl x0, .inl 0] [] h) fun a2_ h1_ => (if a2_ = 0 then none else (if 0 ≤ (wI ((wI (3 * x1)) + 1)) ∧ (wI ((wI (3 * x1)) + 1)) < 24 then (if (h1_ 97 34) = (-1) then some (some (.inl (mx 0 (mn 60 (wI ((wI ((wI ((wI ((wI (6 * x2)).tdiv a2_)) + (h1_ 104 (wI ((wI (3 * x1)) + 1)).toNat))) + x3)) - x4))))), h1_) else (cI (Run d 223 0 [.inr (.inr (.inl 97)), .inl x0, .inl 0] [] (up h1_ 101 112 x2)) fun a6_ h5_ => (if 0 ≤ (wI ((wI (3 * x1)) + 1)) ∧ (wI ((wI (3 * x1)) + 1)) < 24 then (cI (Run d 223 0 [.inr (.inr (.inl 97)), .inl x0, .inl 1] [] (up (up (up h5_ 101 109 a6_) 101 119 x3) 101 104 ((up (up h5_ 101 109 a6_) 101 119 x3) 104 (wI ((wI (3 * x1)) + 1)).toNat))) fun a9_ h8_ => (if 0 ≤ ((up (up h8_ 101 110 a9_) 101 100 x4) 97 34) ∧ ((up (up h8_ 101 110 a9_) 101 100 x4) 97 34) < 4 then (cV (Run d 199 0 [.inr (.inr (.inl 97)), .inr (.inr (.inl 99)), .inl (wI (240 * ((up (up h8_ 101 110 a9_) 101 100 x4) 97 34))), .inl ((up (up h8_ 101 110 a9_) 101 100 x4) 100 ((up (up h8_ 101 110 a9_) 101 100 x4) 97 34).toNat)] [] (up (up h8_ 101 110 a9_) 101 100 x4)) fun h11_ => some (some (.inl (mx 0 (mn 60 (h11_ 97 14)))), h11_)) else none)) else none))) else none))) := by
  refine (R_bipush zf233_0 zb_6 rfl).trans ?_
  refine (R_iload_n zf233_2 rfl rfl).trans ?_
  refine (R_imul zf233_3 rfl).trans ?_
  refine (R_aload_n zf233_4 rfl zlt_97 rfl).trans ?_
  refine (R_iload_n zf233_5 rfl rfl).trans ?_
  refine (R_iconst zf233_6 zw_0 rfl).trans ?_
  refine (R_vcallI zf233_7 zo_233 zvl_12_315 (by rw [zr_223]; rfl) zl_223 (Nat.le_of_ble_eq_true rfl) rfl rfl (Nat.le_of_ble_eq_true rfl) (Nat.le_of_ble_eq_true rfl) (es := [.inr (.inr (.inl 97)), .inl x0, .inl 0]) rfl rfl zk1_97 zo_223).trans ?_
  refine congrArg (cI _) (funext fun a2_ => funext fun h1_ => ?_)
  refine (R_idiv0 zf233_10 rfl).trans ?_
  refine ite_congr rfl (fun _ => rfl) (fun _ => ?_)
  refine (R_aload_n zf233_11 rfl zlt_97 rfl).trans ?_
  refine (R_getR zf233_12 zo_233 zfl_12_43 zk1_97 zft_12_20 zmr_97_20 rfl).trans ?_
  refine (R_iconst zf233_15 zw_3 rfl).trans ?_
  refine (R_iload_n zf233_16 rfl rfl).trans ?_
  refine (R_imul zf233_17 rfl).trans ?_
  refine (R_iconst zf233_18 zw_1 rfl).trans ?_
  refine (R_iadd zf233_19 rfl).trans ?_
  refine (R_iald zf233_20 zk_104 rfl).trans ?_
  refine ite_congr rfl (fun c3_ => ?_) (fun _ => rfl)
  refine (R_iadd zf233_21 rfl).trans ?_
  refine (R_iload zf233_22 rfl rfl).trans ?_
  refine (R_iadd zf233_24 rfl).trans ?_
  refine (R_iload zf233_25 rfl rfl).trans ?_
  refine (R_isub zf233_27 rfl).trans ?_
  refine (R_istore (ls' := [.inr (.inr (.inl 97)), .inl x0, .inl x1, .inl x2, .inl x3, .inl x4, .inl (wI ((wI ((wI ((wI ((wI (6 * x2)).tdiv a2_)) + (h1_ 104 (wI ((wI (3 * x1)) + 1)).toNat))) + x3)) - x4))]) zf233_28 (Nat.le_of_ble_eq_true rfl) rfl rfl).trans ?_
  refine (R_aload_n zf233_30 rfl zlt_97 rfl).trans ?_
  refine (R_getI zf233_31 zo_233 zfl_12_67 zk1_97 zft_12_34 rfl).trans ?_
  refine (R_iconst zf233_34 zw_m1 rfl).trans ?_
  refine (R_icmp_eq (t := 138) zf233_35 rfl rfl).trans ?_
  refine ite_congr rfl (fun c4_ => ?_) (fun c4_ => ?_)
  · refine (R_iconst zf233_138 zw_0 rfl).trans ?_
    refine (R_bipush zf233_139 zb_60 rfl).trans ?_
    refine (R_iload zf233_141 rfl rfl).trans ?_
    refine (R_mmin zf233_143 zo_233 zsl_12_318 zml_12_318 zna_12_318 (Nat.le_of_ble_eq_true rfl) rfl).trans ?_
    refine (R_mmax zf233_146 zo_233 zsl_12_320 zml_12_320 zna_12_320 (Nat.le_of_ble_eq_true rfl) rfl).trans ?_
    exact R_ireturn_i zf233_149 zr_233
  · refine (R_aload_n zf233_38 rfl zlt_97 rfl).trans ?_
    refine (R_getR zf233_39 zo_233 zfl_12_20 zk1_97 zft_12_4 zmr_97_4 rfl).trans ?_
    refine (R_bipush zf233_42 zb_112 rfl).trans ?_
    refine (R_iload_n zf233_44 rfl rfl).trans ?_
    refine (R_iastc zf233_45 zk_101 (by decide) rfl rfl).trans ?_
    refine (R_aload_n zf233_46 rfl zlt_97 rfl).trans ?_
    refine (R_getR zf233_47 zo_233 zfl_12_20 zk1_97 zft_12_4 zmr_97_4 rfl).trans ?_
    refine (R_bipush zf233_50 zb_109 rfl).trans ?_
    refine (R_aload_n zf233_52 rfl zlt_97 rfl).trans ?_
    refine (R_iload_n zf233_53 rfl rfl).trans ?_
    refine (R_iconst zf233_54 zw_0 rfl).trans ?_
    refine (R_vcallI zf233_55 zo_233 zvl_12_315 (by rw [zr_223]; rfl) zl_223 (Nat.le_of_ble_eq_true rfl) rfl rfl (Nat.le_of_ble_eq_true rfl) (Nat.le_of_ble_eq_true rfl) (es := [.inr (.inr (.inl 97)), .inl x0, .inl 0]) rfl rfl zk1_97 zo_223).trans ?_
    refine congrArg (cI _) (funext fun a6_ => funext fun h5_ => ?_)
    refine (R_iastc zf233_58 zk_101 (by decide) rfl rfl).trans ?_
    refine (R_aload_n zf233_59 rfl zlt_97 rfl).trans ?_
    refine (R_getR zf233_60 zo_233 zfl_12_20 zk1_97 zft_12_4 zmr_97_4 rfl).trans ?_
    refine (R_bipush zf233_63 zb_119 rfl).trans ?_
    refine (R_iload zf233_65 rfl rfl).trans ?_
    refine (R_iastc zf233_67 zk_101 (by decide) rfl rfl).trans ?_
    refine (R_aload_n zf233_68 rfl zlt_97 rfl).trans ?_
    refine (R_getR zf233_69 zo_233 zfl_12_20 zk1_97 zft_12_4 zmr_97_4 rfl).trans ?_
    refine (R_bipush zf233_72 zb_104 rfl).trans ?_
    refine (R_aload_n zf233_74 rfl zlt_97 rfl).trans ?_
    refine (R_getR zf233_75 zo_233 zfl_12_43 zk1_97 zft_12_20 zmr_97_20 rfl).trans ?_
    refine (R_iconst zf233_78 zw_3 rfl).trans ?_
    refine (R_iload_n zf233_79 rfl rfl).trans ?_
    refine (R_imul zf233_80 rfl).trans ?_
    refine (R_iconst zf233_81 zw_1 rfl).trans ?_
    refine (R_iadd zf233_82 rfl).trans ?_
    refine (R_iald zf233_83 zk_104 rfl).trans ?_
    refine ite_congr rfl (fun c7_ => ?_) (fun _ => rfl)
    refine (R_iastc zf233_84 zk_101 (by decide) rfl rfl).trans ?_
    refine (R_aload_n zf233_85 rfl zlt_97 rfl).trans ?_
    refine (R_getR zf233_86 zo_233 zfl_12_20 zk1_97 zft_12_4 zmr_97_4 rfl).trans ?_
    refine (R_bipush zf233_89 zb_110 rfl).trans ?_
    refine (R_aload_n zf233_91 rfl zlt_97 rfl).trans ?_
    refine (R_iload_n zf233_92 rfl rfl).trans ?_
    refine (R_iconst zf233_93 zw_1 rfl).trans ?_
    refine (R_vcallI zf233_94 zo_233 zvl_12_315 (by rw [zr_223]; rfl) zl_223 (Nat.le_of_ble_eq_true rfl) rfl rfl (Nat.le_of_ble_eq_true rfl) (Nat.le_of_ble_eq_true rfl) (es := [.inr (.inr (.inl 97)), .inl x0, .inl 1]) rfl rfl zk1_97 zo_223).trans ?_
    refine congrArg (cI _) (funext fun a9_ => funext fun h8_ => ?_)
    refine (R_iastc zf233_97 zk_101 (by decide) rfl rfl).trans ?_
    refine (R_aload_n zf233_98 rfl zlt_97 rfl).trans ?_
    refine (R_getR zf233_99 zo_233 zfl_12_20 zk1_97 zft_12_4 zmr_97_4 rfl).trans ?_
    refine (R_bipush zf233_102 zb_100 rfl).trans ?_
    refine (R_iload zf233_104 rfl rfl).trans ?_
    refine (R_iastc zf233_106 zk_101 (by decide) rfl rfl).trans ?_
    refine (R_aload_n zf233_107 rfl zlt_97 rfl).trans ?_
    refine (R_aload_n zf233_108 rfl zlt_97 rfl).trans ?_
    refine (R_getR zf233_109 zo_233 zfl_12_13 zk1_97 zft_12_2 zmr_97_2 rfl).trans ?_
    refine (R_sipush zf233_112 zs_240 rfl).trans ?_
    refine (R_aload_n zf233_115 rfl zlt_97 rfl).trans ?_
    refine (R_getI zf233_116 zo_233 zfl_12_67 zk1_97 zft_12_34 rfl).trans ?_
    refine (R_imul zf233_119 rfl).trans ?_
    refine (R_aload_n zf233_120 rfl zlt_97 rfl).trans ?_
    refine (R_getR zf233_121 zo_233 zfl_12_16 zk1_97 zft_12_3 zmr_97_3 rfl).trans ?_
    refine (R_aload_n zf233_124 rfl zlt_97 rfl).trans ?_
    refine (R_getI zf233_125 zo_233 zfl_12_67 zk1_97 zft_12_34 rfl).trans ?_
    refine (R_iald zf233_128 zk_100 rfl).trans ?_
    refine ite_congr rfl (fun c10_ => ?_) (fun _ => rfl)
    refine (R_vcallV zf233_129 zo_233 zvl_12_280 zr_199 zl_199 (Nat.le_of_ble_eq_true rfl) rfl rfl (Nat.le_of_ble_eq_true rfl) (Nat.le_of_ble_eq_true rfl) (es := [.inr (.inr (.inl 97)), .inr (.inr (.inl 99)), .inl (wI (240 * ((up (up h8_ 101 110 a9_) 101 100 x4) 97 34))), .inl ((up (up h8_ 101 110 a9_) 101 100 x4) 100 ((up (up h8_ 101 110 a9_) 101 100 x4) 97 34).toNat)]) rfl rfl zk1_97 zo_199).trans ?_
    refine congrArg (cV _) (funext fun h11_ => ?_)
    refine (R_aload_n zf233_132 rfl zlt_97 rfl).trans ?_
    refine (R_getI zf233_133 zo_233 zfl_12_204 zk1_97 zft_12_14 rfl).trans ?_
    refine (R_istore (ls' := [.inr (.inr (.inl 97)), .inl x0, .inl x1, .inl x2, .inl x3, .inl x4, .inl (h11_ 97 14)]) zf233_136 (Nat.le_of_ble_eq_true rfl) rfl rfl).trans ?_
    refine (R_iconst zf233_138 zw_0 rfl).trans ?_
    refine (R_bipush zf233_139 zb_60 rfl).trans ?_
    refine (R_iload zf233_141 rfl rfl).trans ?_
    refine (R_mmin zf233_143 zo_233 zsl_12_318 zml_12_318 zna_12_318 (Nat.le_of_ble_eq_true rfl) rfl).trans ?_
    refine (R_mmax zf233_146 zo_233 zsl_12_320 zml_12_320 zna_12_320 (Nat.le_of_ble_eq_true rfl) rfl).trans ?_
    exact R_ireturn_i zf233_149 zr_233
-- CannonPostModel.nearestTo(I)I at 4
theorem q236_4 (d : Nat) (x0 : Int) (x1 : Int) (x2 : Int) (h : MH) : Run (d + 1) 236 4 [.inr (.inr (.inl 97)), .inl x0, .inl x1, .inl x2] [] h = (if (h 97 26) ≤ x2 then some (some (.inl x1), h) else (cI (Run d 234 0 [.inr (.inr (.inl 97)), .inl x2] [] h) fun a3_ h2_ => (cI (Run d 234 0 [.inr (.inr (.inl 97)), .inl x1] [] h2_) fun a5_ h4_ => (if (ab (wI (a5_ - x0))) ≤ (ab (wI (a3_ - x0))) then Run (d + 1) 236 4 [.inr (.inr (.inl 97)), .inl x0, .inl x1, .inl (wI (x2 + 1))] [] h4_ else Run (d + 1) 236 4 [.inr (.inr (.inl 97)), .inl x0, .inl x2, .inl (wI (x2 + 1))] [] h4_)))) := by
  refine (R_iload_n zf236_4 rfl rfl).trans ?_
  refine (R_aload_n zf236_5 rfl zlt_97 rfl).trans ?_
  refine (R_getI zf236_6 zo_236 zfl_12_294 zk1_97 zft_12_26 rfl).trans ?_
  refine (R_icmp_ge (t := 47) zf236_9 rfl rfl).trans ?_
  refine ite_congr rfl (fun c1_ => ?_) (fun c1_ => ?_)
  · refine (R_iload_n zf236_47 rfl rfl).trans ?_
    exact R_ireturn_i zf236_48 zr_236
  · refine (R_aload_n zf236_12 rfl zlt_97 rfl).trans ?_
    refine (R_iload_n zf236_13 rfl rfl).trans ?_
    refine (R_vcallI zf236_14 zo_236 zvl_12_326 (by rw [zr_234]; rfl) zl_234 (Nat.le_of_ble_eq_true rfl) rfl rfl (Nat.le_of_ble_eq_true rfl) (Nat.le_of_ble_eq_true rfl) (es := [.inr (.inr (.inl 97)), .inl x2]) rfl rfl zk1_97 zo_234).trans ?_
    refine congrArg (cI _) (funext fun a3_ => funext fun h2_ => ?_)
    refine (R_iload_n zf236_17 rfl rfl).trans ?_
    refine (R_isub zf236_18 rfl).trans ?_
    refine (R_mabs zf236_19 zo_236 zsl_12_333 zml_12_333 zna_12_333 (Nat.le_of_ble_eq_true rfl) rfl).trans ?_
    refine (R_aload_n zf236_22 rfl zlt_97 rfl).trans ?_
    refine (R_iload_n zf236_23 rfl rfl).trans ?_
    refine (R_vcallI zf236_24 zo_236 zvl_12_326 (by rw [zr_234]; rfl) zl_234 (Nat.le_of_ble_eq_true rfl) rfl rfl (Nat.le_of_ble_eq_true rfl) (Nat.le_of_ble_eq_true rfl) (es := [.inr (.inr (.inl 97)), .inl x1]) rfl rfl zk1_97 zo_234).trans ?_
    refine congrArg (cI _) (funext fun a5_ => funext fun h4_ => ?_)
    refine (R_iload_n zf236_27 rfl rfl).trans ?_
    refine (R_isub zf236_28 rfl).trans ?_
    refine (R_mabs zf236_29 zo_236 zsl_12_333 zml_12_333 zna_12_333 (Nat.le_of_ble_eq_true rfl) rfl).trans ?_
    refine (R_icmp_ge (t := 39) zf236_32 rfl rfl).trans ?_
    refine ite_congr rfl (fun c6_ => ?_) (fun c6_ => ?_)
    · refine (R_iload_n zf236_39 rfl rfl).trans ?_
      refine (R_istore_n (ls' := [.inr (.inr (.inl 97)), .inl x0, .inl x1, .inl x2]) zf236_40 (Nat.le_of_ble_eq_true rfl) rfl rfl).trans ?_
      refine (R_iinc (ls' := [.inr (.inr (.inl 97)), .inl x0, .inl x1, .inl (wI (x2 + 1))]) zf236_41 rfl rfl rfl).trans ?_
      refine (R_goto (t := 4) zf236_44 rfl).trans ?_
      rfl
    · refine (R_iload_n zf236_35 rfl rfl).trans ?_
      refine (R_goto (t := 40) zf236_36 rfl).trans ?_
      refine (R_istore_n (ls' := [.inr (.inr (.inl 97)), .inl x0, .inl x2, .inl x2]) zf236_40 (Nat.le_of_ble_eq_true rfl) rfl rfl).trans ?_
      refine (R_iinc (ls' := [.inr (.inr (.inl 97)), .inl x0, .inl x2, .inl (wI (x2 + 1))]) zf236_41 rfl rfl rfl).trans ?_
      refine (R_goto (t := 4) zf236_44 rfl).trans ?_
      rfl
-- CannonPostModel.layAims(I)V at 28
theorem q264_28 (d : Nat) (x0 : Int) (x1 : Int) (z2 : MV) (hz2 : cat z2 = 1) (z3 : MV) (hz3 : cat z3 = 1) (z4 : MV) (hz4 : cat z4 = 1) (h : MH) : Run (d + 1) 264 28 [.inr (.inr (.inl 97)), .inl x0, .inl x1, z2, z3, z4] [] h = (if (h 97 26) ≤ x1 then some (none, h) else Run (d + 1) 264 39 [.inr (.inr (.inl 97)), .inl x0, .inl x1, .inl 20, z3, z4] [] h) := by
  refine (R_iload_n zf264_28 rfl rfl).trans ?_
  refine (R_aload_n zf264_29 rfl zlt_97 rfl).trans ?_
  refine (R_getI zf264_30 zo_264 zfl_12_294 zk1_97 zft_12_26 rfl).trans ?_
  refine (R_icmp_ge (t := 151) zf264_33 rfl rfl).trans ?_
  refine ite_congr rfl (fun c1_ => ?_) (fun c1_ => ?_)
  · exact R_return zf264_151 zr_264
  · refine (R_bipush zf264_36 zb_20 rfl).trans ?_
    refine (R_istore_n (ls' := [.inr (.inr (.inl 97)), .inl x0, .inl x1, .inl 20, z3, z4]) zf264_38 (Nat.le_of_ble_eq_true rfl) rfl rfl).trans ?_
    rfl
-- CannonPostModel.goRoute(IIIIIII)V at 36
theorem q268_36 (d : Nat) (x0 : Int) (x1 : Int) (x2 : Int) (x3 : Int) (x4 : Int) (x5 : Int) (x6 : Int) (z7 : MV) (hz7 : cat z7 = 1) (h : MH) : Run (d + 1) 268 36 [.inr (.inr (.inl 97)), .inl x0, .inl x1, .inl x2, .inl x3, .inl x4, .inl x5, .inl x6, z7] [] h = (if ¬ x1 = x2 then Run (d + 1) 268 91 [.inr (.inr (.inl 97)), .inl x0, .inl x1, .inl x2, .inl x3, .inl x4, .inl x5, .inl x6, .inl 0] [] h else (if ¬ (h 97 40) = x4 then some (none, (up (up (up h 97 40 x4) 97 41 x5) 97 42 x6)) else (if ¬ (h 97 41) = x5 then some (none, (up (up (up h 97 40 x4) 97 41 x5) 97 42 x6)) else (if x6 < (h 97 42) then some (none, (up (up (up h 97 40 x4) 97 41 x5) 97 42 x6)) else some (none, h))))) := by
  refine (R_iload_n zf268_36 rfl rfl).trans ?_
  refine (R_iload_n zf268_37 rfl rfl).trans ?_
  refine (R_icmp_ne (t := 88) zf268_38 rfl rfl).trans ?_
  refine ite_congr rfl (fun c1_ => ?_) (fun c1_ => ?_)
  · refine (R_iconst zf268_88 zw_0 rfl).trans ?_
    refine (R_istore (ls' := [.inr (.inr (.inl 97)), .inl x0, .inl x1, .inl x2, .inl x3, .inl x4, .inl x5, .inl x6, .inl 0]) zf268_89 (Nat.le_of_ble_eq_true rfl) rfl rfl).trans ?_
    rfl
  · refine (R_aload_n zf268_41 rfl zlt_97 rfl).trans ?_
    refine (R_getI zf268_42 zo_268 zfl_12_450 zk1_97 zft_12_40 rfl).trans ?_
    refine (R_iload zf268_45 rfl rfl).trans ?_
    refine (R_icmp_ne (t := 69) zf268_47 rfl rfl).trans ?_
    refine ite_congr rfl (fun c2_ => ?_) (fun c2_ => ?_)
    · refine (R_aload_n zf268_69 rfl zlt_97 rfl).trans ?_
      refine (R_iload zf268_70 rfl rfl).trans ?_
      refine (R_putI zf268_72 zo_268 zfl_12_450 zk1_97 zft_12_40 rfl).trans ?_
      refine (R_aload_n zf268_75 rfl zlt_97 rfl).trans ?_
      refine (R_iload zf268_76 rfl rfl).trans ?_
      refine (R_putI zf268_78 zo_268 zfl_12_453 zk1_97 zft_12_41 rfl).trans ?_
      refine (R_aload_n zf268_81 rfl zlt_97 rfl).trans ?_
      refine (R_iload zf268_82 rfl rfl).trans ?_
      refine (R_putI zf268_84 zo_268 zfl_12_456 zk1_97 zft_12_42 rfl).trans ?_
      exact R_return zf268_87 zr_268
    · refine (R_aload_n zf268_50 rfl zlt_97 rfl).trans ?_
      refine (R_getI zf268_51 zo_268 zfl_12_453 zk1_97 zft_12_41 rfl).trans ?_
      refine (R_iload zf268_54 rfl rfl).trans ?_
      refine (R_icmp_ne (t := 69) zf268_56 rfl rfl).trans ?_
      refine ite_congr rfl (fun c3_ => ?_) (fun c3_ => ?_)
      · refine (R_aload_n zf268_69 rfl zlt_97 rfl).trans ?_
        refine (R_iload zf268_70 rfl rfl).trans ?_
        refine (R_putI zf268_72 zo_268 zfl_12_450 zk1_97 zft_12_40 rfl).trans ?_
        refine (R_aload_n zf268_75 rfl zlt_97 rfl).trans ?_
        refine (R_iload zf268_76 rfl rfl).trans ?_
        refine (R_putI zf268_78 zo_268 zfl_12_453 zk1_97 zft_12_41 rfl).trans ?_
        refine (R_aload_n zf268_81 rfl zlt_97 rfl).trans ?_
        refine (R_iload zf268_82 rfl rfl).trans ?_
        refine (R_putI zf268_84 zo_268 zfl_12_456 zk1_97 zft_12_42 rfl).trans ?_
        exact R_return zf268_87 zr_268
      · refine (R_iload zf268_59 rfl rfl).trans ?_
        refine (R_aload_n zf268_61 rfl zlt_97 rfl).trans ?_
        refine (R_getI zf268_62 zo_268 zfl_12_456 zk1_97 zft_12_42 rfl).trans ?_
        refine (R_icmp_lt (t := 69) zf268_65 rfl rfl).trans ?_
        refine ite_congr rfl (fun c4_ => ?_) (fun c4_ => ?_)
        · refine (R_aload_n zf268_69 rfl zlt_97 rfl).trans ?_
          refine (R_iload zf268_70 rfl rfl).trans ?_
          refine (R_putI zf268_72 zo_268 zfl_12_450 zk1_97 zft_12_40 rfl).trans ?_
          refine (R_aload_n zf268_75 rfl zlt_97 rfl).trans ?_
          refine (R_iload zf268_76 rfl rfl).trans ?_
          refine (R_putI zf268_78 zo_268 zfl_12_453 zk1_97 zft_12_41 rfl).trans ?_
          refine (R_aload_n zf268_81 rfl zlt_97 rfl).trans ?_
          refine (R_iload zf268_82 rfl rfl).trans ?_
          refine (R_putI zf268_84 zo_268 zfl_12_456 zk1_97 zft_12_42 rfl).trans ?_
          exact R_return zf268_87 zr_268
        · exact R_return zf268_68 zr_268
-- CannonPostModel.relay(III)I at 106
theorem q272_106 (d : Nat) (z0 : MV) (hz0 : cat z0 = 1) (x1 : Int) (x2 : Int) (x3 : Int) (x4 : Int) (x5 : Int) (z6 : MV) (hz6 : cat z6 = 1) (h : MH) : Run (d + 1) 272 106 [.inr (.inr (.inl 97)), z0, .inl x1, .inl x2, .inl x3, .inl x4, .inl x5, z6] [] h = (if (wI ((h 97 27) * 10)) ≤ x5 then Run (d + 1) 272 97 [.inr (.inr (.inl 97)), z0, .inl x1, .inl x2, .inl x3, .inl (wI (x4 + 1)), .inl x5, z6] [] h else (if (h 97 26) ≤ (x5.tmod 10) then Run (d + 1) 272 106 [.inr (.inr (.inl 97)), z0, .inl x1, .inl x2, .inl x3, .inl x4, .inl (wI (x5 + 1)), .inl (x5.tmod 10)] [] h else (cI (Run d 228 0 [.inr (.inr (.inl 97)), .inr (.inr (.inl 110)), .inl (wI (x5.tdiv 10))] [] h) fun a4_ h3_ => (if a4_ = 0 then Run (d + 1) 272 106 [.inr (.inr (.inl 97)), z0, .inl x1, .inl x2, .inl x3, .inl x4, .inl (wI (x5 + 1)), .inl (x5.tmod 10)] [] h3_ else (cI (Run d 275 0 [.inr (.inr (.inl 97)), .inl (wI (x5.tdiv 10)), .inl (x5.tmod 10), .inl x3, .inl x1, .inl x4, vU, vU] [] h3_) fun a7_ h6_ => (if a7_ = 0 then Run (d + 1) 272 106 [.inr (.inr (.inl 97)), z0, .inl x1, .inl x2, .inl x3, .inl x4, .inl (wI (x5 + 1)), .inl (x5.tmod 10)] [] h6_ else (if ¬ x2 = 0 then some (some (.inl x5), h6_) else some (some (.inl x4), h6_)))))))) := by
  refine (R_iload zf272_106 rfl rfl).trans ?_
  refine (R_aload_n zf272_108 rfl zlt_97 rfl).trans ?_
  refine (R_getI zf272_109 zo_272 zfl_12_297 zk1_97 zft_12_27 rfl).trans ?_
  refine (R_bipush zf272_112 zb_10 rfl).trans ?_
  refine (R_imul zf272_114 rfl).trans ?_
  refine (R_icmp_ge (t := 187) zf272_115 rfl rfl).trans ?_
  refine ite_congr rfl (fun c1_ => ?_) (fun c1_ => ?_)
  · refine (R_iinc (ls' := [.inr (.inr (.inl 97)), z0, .inl x1, .inl x2, .inl x3, .inl (wI (x4 + 1)), .inl x5, z6]) zf272_187 rfl rfl rfl).trans ?_
    refine (R_goto (t := 97) zf272_190 rfl).trans ?_
    rfl
  · refine (R_iload zf272_118 rfl rfl).trans ?_
    refine (R_bipush zf272_120 zb_10 rfl).trans ?_
    refine (R_irem zf272_122 (by decide) rfl).trans ?_
    refine (R_istore (ls' := [.inr (.inr (.inl 97)), z0, .inl x1, .inl x2, .inl x3, .inl x4, .inl x5, .inl (x5.tmod 10)]) zf272_123 (Nat.le_of_ble_eq_true rfl) rfl rfl).trans ?_
    refine (R_iload zf272_125 rfl rfl).trans ?_
    refine (R_aload_n zf272_127 rfl zlt_97 rfl).trans ?_
    refine (R_getI zf272_128 zo_272 zfl_12_294 zk1_97 zft_12_26 rfl).trans ?_
    refine (R_icmp_ge (t := 181) zf272_131 rfl rfl).trans ?_
    refine ite_congr rfl (fun c2_ => ?_) (fun c2_ => ?_)
    · refine (R_iinc (ls' := [.inr (.inr (.inl 97)), z0, .inl x1, .inl x2, .inl x3, .inl x4, .inl (wI (x5 + 1)), .inl (x5.tmod 10)]) zf272_181 rfl rfl rfl).trans ?_
      refine (R_goto (t := 106) zf272_184 rfl).trans ?_
      rfl
    · refine (R_aload_n zf272_134 rfl zlt_97 rfl).trans ?_
      refine (R_aload_n zf272_135 rfl zlt_97 rfl).trans ?_
      refine (R_getR zf272_136 zo_272 zfl_12_61 zk1_97 zft_12_32 zmr_97_32 rfl).trans ?_
      refine (R_iload zf272_139 rfl rfl).trans ?_
      refine (R_bipush zf272_141 zb_10 rfl).trans ?_
      refine (R_idiv zf272_143 (by decide) rfl).trans ?_
      refine (R_vcallI zf272_144 zo_272 zvl_12_342 (by rw [zr_228]; rfl) zl_228 (Nat.le_of_ble_eq_true rfl) rfl rfl (Nat.le_of_ble_eq_true rfl) (Nat.le_of_ble_eq_true rfl) (es := [.inr (.inr (.inl 97)), .inr (.inr (.inl 110)), .inl (wI (x5.tdiv 10))]) rfl rfl zk1_97 zo_228).trans ?_
      refine congrArg (cI _) (funext fun a4_ => funext fun h3_ => ?_)
      refine (R_if_eq (t := 181) zf272_147 rfl rfl).trans ?_
      refine ite_congr rfl (fun c5_ => ?_) (fun c5_ => ?_)
      · refine (R_iinc (ls' := [.inr (.inr (.inl 97)), z0, .inl x1, .inl x2, .inl x3, .inl x4, .inl (wI (x5 + 1)), .inl (x5.tmod 10)]) zf272_181 rfl rfl rfl).trans ?_
        refine (R_goto (t := 106) zf272_184 rfl).trans ?_
        rfl
      · refine (R_aload_n zf272_150 rfl zlt_97 rfl).trans ?_
        refine (R_iload zf272_151 rfl rfl).trans ?_
        refine (R_bipush zf272_153 zb_10 rfl).trans ?_
        refine (R_idiv zf272_155 (by decide) rfl).trans ?_
        refine (R_iload zf272_156 rfl rfl).trans ?_
        refine (R_iload zf272_158 rfl rfl).trans ?_
        refine (R_iload_n zf272_160 rfl rfl).trans ?_
        refine (R_iload zf272_161 rfl rfl).trans ?_
        refine (R_vcallI zf272_163 zo_272 zvl_12_474 (by rw [zr_275]; rfl) zl_275 (Nat.le_of_ble_eq_true rfl) rfl rfl (Nat.le_of_ble_eq_true rfl) (Nat.le_of_ble_eq_true rfl) (es := [.inr (.inr (.inl 97)), .inl (wI (x5.tdiv 10)), .inl (x5.tmod 10), .inl x3, .inl x1, .inl x4, vU, vU]) rfl rfl zk1_97 zo_275).trans ?_
        refine congrArg (cI _) (funext fun a7_ => funext fun h6_ => ?_)
        refine (R_if_eq (t := 181) zf272_166 rfl rfl).trans ?_
        refine ite_congr rfl (fun c8_ => ?_) (fun c8_ => ?_)
        · refine (R_iinc (ls' := [.inr (.inr (.inl 97)), z0, .inl x1, .inl x2, .inl x3, .inl x4, .inl (wI (x5 + 1)), .inl (x5.tmod 10)]) zf272_181 rfl rfl rfl).trans ?_
          refine (R_goto (t := 106) zf272_184 rfl).trans ?_
          rfl
        · refine (R_iload_n zf272_169 rfl rfl).trans ?_
          refine (R_if_ne (t := 178) zf272_170 rfl rfl).trans ?_
          refine ite_congr rfl (fun c9_ => ?_) (fun c9_ => ?_)
          · refine (R_iload zf272_178 rfl rfl).trans ?_
            exact R_ireturn_i zf272_180 zr_272
          · refine (R_iload zf272_173 rfl rfl).trans ?_
            refine (R_goto (t := 180) zf272_175 rfl).trans ?_
            exact R_ireturn_i zf272_180 zr_272
-- CannonPostModel.fits(I)Z at 10
theorem q279_10 (d : Nat) (x0 : Int) (x1 : Int) (h : MH) : Run (d + 1) 279 10 [.inr (.inr (.inl 97)), .inl x0, .inl x1] [] h = (if (h 97 46) ≤ x1 then some (some (.inl 1), h) else (if 0 ≤ (wI (5 * x1)) ∧ (wI (5 * x1)) < 50 then (if 0 ≤ (wI ((wI (5 * x1)) + 1)) ∧ (wI ((wI (5 * x1)) + 1)) < 50 then (if 0 ≤ (wI ((wI (5 * x1)) + 2)) ∧ (wI ((wI (5 * x1)) + 2)) < 50 then (if 0 ≤ (wI ((wI (5 * x1)) + 3)) ∧ (wI ((wI (5 * x1)) + 3)) < 50 then (cI (Run d 232 0 [.inr (.inr (.inl 97)), .inl (h 115 (wI (5 * x1)).toNat), .inl (h 115 (wI ((wI (5 * x1)) + 1)).toNat), .inl (h 115 (wI ((wI (5 * x1)) + 2)).toNat), .inl (h 115 (wI ((wI (5 * x1)) + 3)).toNat), .inl (x0.tmod 10), .inl (wI (x0.tdiv 10)), .inl 0, vU] [] h) fun a7_ h6_ => (if 0 ≤ (wI ((wI (5 * x1)) + 4)) ∧ (wI ((wI (5 * x1)) + 4)) < 50 then (if a7_ = (h6_ 115 (wI ((wI (5 * x1)) + 4)).toNat) then Run (d + 1) 279 10 [.inr (.inr (.inl 97)), .inl x0, .inl (wI (x1 + 1))] [] h6_ else some (some (.inl 0), h6_)) else none)) else none) else none) else none) else none)) := by
  refine (R_iload_n zf279_10 rfl rfl).trans ?_
  refine (R_aload_n zf279_11 rfl zlt_97 rfl).trans ?_
  refine (R_getI zf279_12 zo_279 zfl_12_303 zk1_97 zft_12_46 rfl).trans ?_
  refine (R_icmp_ge (t := 90) zf279_15 rfl rfl).trans ?_
  refine ite_congr rfl (fun c1_ => ?_) (fun c1_ => ?_)
  · refine (R_iconst zf279_90 zw_1 rfl).trans ?_
    exact R_ireturn zf279_91 (by rw [zr_279]; rfl)
  · refine (R_aload_n zf279_18 rfl zlt_97 rfl).trans ?_
    refine (R_aload_n zf279_19 rfl zlt_97 rfl).trans ?_
    refine (R_getR zf279_20 zo_279 zfl_12_80 zk1_97 zft_12_44 zmr_97_44 rfl).trans ?_
    refine (R_iconst zf279_23 zw_5 rfl).trans ?_
    refine (R_iload_n zf279_24 rfl rfl).trans ?_
    refine (R_imul zf279_25 rfl).trans ?_
    refine (R_iald zf279_26 zk_115 rfl).trans ?_
    refine ite_congr rfl (fun c2_ => ?_) (fun _ => rfl)
    refine (R_aload_n zf279_27 rfl zlt_97 rfl).trans ?_
    refine (R_getR zf279_28 zo_279 zfl_12_80 zk1_97 zft_12_44 zmr_97_44 rfl).trans ?_
    refine (R_iconst zf279_31 zw_5 rfl).trans ?_
    refine (R_iload_n zf279_32 rfl rfl).trans ?_
    refine (R_imul zf279_33 rfl).trans ?_
    refine (R_iconst zf279_34 zw_1 rfl).trans ?_
    refine (R_iadd zf279_35 rfl).trans ?_
    refine (R_iald zf279_36 zk_115 rfl).trans ?_
    refine ite_congr rfl (fun c3_ => ?_) (fun _ => rfl)
    refine (R_aload_n zf279_37 rfl zlt_97 rfl).trans ?_
    refine (R_getR zf279_38 zo_279 zfl_12_80 zk1_97 zft_12_44 zmr_97_44 rfl).trans ?_
    refine (R_iconst zf279_41 zw_5 rfl).trans ?_
    refine (R_iload_n zf279_42 rfl rfl).trans ?_
    refine (R_imul zf279_43 rfl).trans ?_
    refine (R_iconst zf279_44 zw_2 rfl).trans ?_
    refine (R_iadd zf279_45 rfl).trans ?_
    refine (R_iald zf279_46 zk_115 rfl).trans ?_
    refine ite_congr rfl (fun c4_ => ?_) (fun _ => rfl)
    refine (R_aload_n zf279_47 rfl zlt_97 rfl).trans ?_
    refine (R_getR zf279_48 zo_279 zfl_12_80 zk1_97 zft_12_44 zmr_97_44 rfl).trans ?_
    refine (R_iconst zf279_51 zw_5 rfl).trans ?_
    refine (R_iload_n zf279_52 rfl rfl).trans ?_
    refine (R_imul zf279_53 rfl).trans ?_
    refine (R_iconst zf279_54 zw_3 rfl).trans ?_
    refine (R_iadd zf279_55 rfl).trans ?_
    refine (R_iald zf279_56 zk_115 rfl).trans ?_
    refine ite_congr rfl (fun c5_ => ?_) (fun _ => rfl)
    refine (R_iload_n zf279_57 rfl rfl).trans ?_
    refine (R_bipush zf279_58 zb_10 rfl).trans ?_
    refine (R_irem zf279_60 (by decide) rfl).trans ?_
    refine (R_iload_n zf279_61 rfl rfl).trans ?_
    refine (R_bipush zf279_62 zb_10 rfl).trans ?_
    refine (R_idiv zf279_64 (by decide) rfl).trans ?_
    refine (R_iconst zf279_65 zw_0 rfl).trans ?_
    refine (R_vcallI zf279_66 zo_279 zvl_12_329 (by rw [zr_232]; rfl) zl_232 (Nat.le_of_ble_eq_true rfl) rfl rfl (Nat.le_of_ble_eq_true rfl) (Nat.le_of_ble_eq_true rfl) (es := [.inr (.inr (.inl 97)), .inl (h 115 (wI (5 * x1)).toNat), .inl (h 115 (wI ((wI (5 * x1)) + 1)).toNat), .inl (h 115 (wI ((wI (5 * x1)) + 2)).toNat), .inl (h 115 (wI ((wI (5 * x1)) + 3)).toNat), .inl (x0.tmod 10), .inl (wI (x0.tdiv 10)), .inl 0, vU]) rfl rfl zk1_97 zo_232).trans ?_
    refine congrArg (cI _) (funext fun a7_ => funext fun h6_ => ?_)
    refine (R_aload_n zf279_69 rfl zlt_97 rfl).trans ?_
    refine (R_getR zf279_70 zo_279 zfl_12_80 zk1_97 zft_12_44 zmr_97_44 rfl).trans ?_
    refine (R_iconst zf279_73 zw_5 rfl).trans ?_
    refine (R_iload_n zf279_74 rfl rfl).trans ?_
    refine (R_imul zf279_75 rfl).trans ?_
    refine (R_iconst zf279_76 zw_4 rfl).trans ?_
    refine (R_iadd zf279_77 rfl).trans ?_
    refine (R_iald zf279_78 zk_115 rfl).trans ?_
    refine ite_congr rfl (fun c8_ => ?_) (fun _ => rfl)
    refine (R_icmp_eq (t := 84) zf279_79 rfl rfl).trans ?_
    refine ite_congr rfl (fun c9_ => ?_) (fun c9_ => ?_)
    · refine (R_iinc (ls' := [.inr (.inr (.inl 97)), .inl x0, .inl (wI (x1 + 1))]) zf279_84 rfl rfl rfl).trans ?_
      refine (R_goto (t := 10) zf279_87 rfl).trans ?_
      rfl
    · refine (R_iconst zf279_82 zw_0 rfl).trans ?_
      exact R_ireturn zf279_83 (by rw [zr_279]; rfl)
-- CannonPostModel.ask(II)I at 85
theorem q280_85 (d : Nat) (x0 : Int) (x1 : Int) (x2 : Int) (x3 : Int) (x4 : Int) (x5 : Int) (x6 : Int) (z7 : MV) (hz7 : cat z7 = 1) (z8 : MV) (hz8 : cat z8 = 1) (z9 : MV) (hz9 : cat z9 = 1) (h : MH) : Run (d + 1) 280 85 [.inr (.inr (.inl 97)), .inl x0, .inl x1, .inl x2, .inl x3, .inl x4, .inl x5, .inl x6, z7, z8, z9] [] h = (if 20 < x6 then Run (d + 1) 280 76 [.inr (.inr (.inl 97)), .inl x0, .inl x1, .inl x2, .inl x3, .inl x4, .inl (wI (x5 + 1)), .inl x6, z7, z8, z9] [] h else Run (d + 1) 280 95 [.inr (.inr (.inl 97)), .inl x0, .inl x1, .inl x2, .inl x3, .inl x4, .inl x5, .inl x6, .inl 0, z8, z9] [] h) := by
  refine (R_iload zf280_85 rfl rfl).trans ?_
  refine (R_bipush zf280_87 zb_20 rfl).trans ?_
  refine (R_icmp_gt (t := 243) zf280_89 rfl rfl).trans ?_
  refine ite_congr rfl (fun c1_ => ?_) (fun c1_ => ?_)
  · refine (R_iinc (ls' := [.inr (.inr (.inl 97)), .inl x0, .inl x1, .inl x2, .inl x3, .inl x4, .inl (wI (x5 + 1)), .inl x6, z7, z8, z9]) zf280_243 rfl rfl rfl).trans ?_
    refine (R_goto (t := 76) zf280_246 rfl).trans ?_
    rfl
  · refine (R_iconst zf280_92 zw_0 rfl).trans ?_
    refine (R_istore (ls' := [.inr (.inr (.inl 97)), .inl x0, .inl x1, .inl x2, .inl x3, .inl x4, .inl x5, .inl x6, .inl 0, z8, z9]) zf280_93 (Nat.le_of_ble_eq_true rfl) rfl rfl).trans ?_
    rfl
-- CannonPostModel.netOf(II)I at 19
theorem q282_19 (d : Nat) (z0 : MV) (hz0 : cat z0 = 1) (x1 : Int) (x2 : Int) (x3 : Int) (x4 : Int) (z5 : MV) (hz5 : cat z5 = 1) (h : MH) : Run (d + 1) 282 19 [.inr (.inr (.inl 97)), z0, .inl x1, .inl x2, .inl x3, .inl x4, z5] [] h = (if (h 97 26) ≤ x4 then Run (d + 1) 282 7 [.inr (.inr (.inl 97)), z0, .inl x1, .inl x2, .inl (wI (x3 + 1)), .inl x4, z5] [] h else Run (d + 1) 282 31 [.inr (.inr (.inl 97)), z0, .inl x1, .inl x2, .inl x3, .inl x4, .inl 0] [] h) := by
  refine (R_iload zf282_19 rfl rfl).trans ?_
  refine (R_aload_n zf282_21 rfl zlt_97 rfl).trans ?_
  refine (R_getI zf282_22 zo_282 zfl_12_294 zk1_97 zft_12_26 rfl).trans ?_
  refine (R_icmp_ge (t := 85) zf282_25 rfl rfl).trans ?_
  refine ite_congr rfl (fun c1_ => ?_) (fun c1_ => ?_)
  · refine (R_iinc (ls' := [.inr (.inr (.inl 97)), z0, .inl x1, .inl x2, .inl (wI (x3 + 1)), .inl x4, z5]) zf282_85 rfl rfl rfl).trans ?_
    refine (R_goto (t := 7) zf282_88 rfl).trans ?_
    rfl
  · refine (R_iconst zf282_28 zw_0 rfl).trans ?_
    refine (R_istore (ls' := [.inr (.inr (.inl 97)), z0, .inl x1, .inl x2, .inl x3, .inl x4, .inl 0]) zf282_29 (Nat.le_of_ble_eq_true rfl) rfl rfl).trans ?_
    rfl
-- CannonPostModel.weightFor(I)J at 0
theorem q292_0 (d : Nat) (x0 : Int) (h : MH) : Run d 292 0 [.inr (.inr (.inl 97)), .inl x0, vU, vU, vU, vU] [] h = Run d 292 5 [.inr (.inr (.inl 97)), .inl x0, .inr (.inl 1), vU, .inl 0, vU] [] h := by
  refine (R_lconst (v := 1) zf292_0 rfl rfl).trans ?_
  refine (R_lstore_n (ls' := [.inr (.inr (.inl 97)), .inl x0, .inr (.inl 1), vU, vU, vU]) zf292_1 (Nat.le_of_ble_eq_true rfl) rfl rfl).trans ?_
  refine (R_iconst zf292_2 zw_0 rfl).trans ?_
  refine (R_istore (ls' := [.inr (.inr (.inl 97)), .inl x0, .inr (.inl 1), vU, .inl 0, vU]) zf292_3 (Nat.le_of_ble_eq_true rfl) rfl rfl).trans ?_
  rfl
-- CannonPostModel.leastHay([I)I at 5
theorem q296_5 (d : Nat) (x0 : Int) (x1 : Int) (h : MH) : Run d 296 5 [.inr (.inr (.inl 97)), .inr (.inr (.inl 111)), .inl x0, .inl x1] [] h = (if (h 97 26) ≤ x1 then some (some (.inl x0), h) else (if 0 ≤ (wI (0 + x1)) ∧ (wI (0 + x1)) < 277 then Run d 296 5 [.inr (.inr (.inl 97)), .inr (.inr (.inl 111)), .inl (mn x0 (h 111 (wI (0 + x1)).toNat)), .inl (wI (x1 + 1))] [] h else none)) := by
  refine (R_iload_n zf296_5 rfl rfl).trans ?_
  refine (R_aload_n zf296_6 rfl zlt_97 rfl).trans ?_
  refine (R_getI zf296_7 zo_296 zfl_12_294 zk1_97 zft_12_26 rfl).trans ?_
  refine (R_icmp_ge (t := 29) zf296_10 rfl rfl).trans ?_
  refine ite_congr rfl (fun c1_ => ?_) (fun c1_ => ?_)
  · refine (R_iload_n zf296_29 rfl rfl).trans ?_
    exact R_ireturn_i zf296_30 zr_296
  · refine (R_iload_n zf296_13 rfl rfl).trans ?_
    refine (R_aload_n zf296_14 rfl zlt_111 rfl).trans ?_
    refine (R_iconst zf296_15 zw_0 rfl).trans ?_
    refine (R_iload_n zf296_16 rfl rfl).trans ?_
    refine (R_iadd zf296_17 rfl).trans ?_
    refine (R_iald zf296_18 zk_111 rfl).trans ?_
    refine ite_congr rfl (fun c2_ => ?_) (fun _ => rfl)
    refine (R_mmin zf296_19 zo_296 zsl_12_318 zml_12_318 zna_12_318 (Nat.le_of_ble_eq_true rfl) rfl).trans ?_
    refine (R_istore_n (ls' := [.inr (.inr (.inl 97)), .inr (.inr (.inl 111)), .inl (mn x0 (h 111 (wI (0 + x1)).toNat)), .inl x1]) zf296_22 (Nat.le_of_ble_eq_true rfl) rfl rfl).trans ?_
    refine (R_iinc (ls' := [.inr (.inr (.inl 97)), .inr (.inr (.inl 111)), .inl (mn x0 (h 111 (wI (0 + x1)).toNat)), .inl (wI (x1 + 1))]) zf296_23 rfl rfl rfl).trans ?_
    refine (R_goto (t := 5) zf296_26 rfl).trans ?_
    rfl
-- CannonPostModel.goHour([I)V at 2
theorem q247_2_1 (d : Nat) (x0 : Int) (h : MH) : Run (d + 1) 247 2 [.inr (.inr (.inl 97)), .inr (.inr (.inl 111)), .inl x0] [] h = (if (h 97 27) ≤ x0 then Run (d + 1) 247 48 [.inr (.inr (.inl 97)), .inr (.inr (.inl 111)), .inl 0] [] (up h 111 35 (wI ((h 111 35) + 1))) else (cI (Run d 217 0 [.inl x0] [] h) fun a3_ h2_ => (cI (Run d 217 0 [.inl x0] [] h2_) fun a5_ h4_ => (if 0 ≤ (wI (a5_ + 2)) ∧ (wI (a5_ + 2)) < 277 then (if 0 ≤ (wI (a3_ + 2)) ∧ (wI (a3_ + 2)) < 277 then Run (d + 1) 247 2 [.inr (.inr (.inl 97)), .inr (.inr (.inl 111)), .inl (wI (x0 + 1))] [] (up h4_ 111 (wI (a3_ + 2)).toNat (mx 0 (wI ((h4_ 111 (wI (a5_ + 2)).toNat) - 1)))) else none) else none)))) := by
  refine (R_iload_n zf247_2 rfl rfl).trans ?_
  refine (R_aload_n zf247_3 rfl zlt_97 rfl).trans ?_
  refine (R_getI zf247_4 zo_247 zfl_12_297 zk1_97 zft_12_27 rfl).trans ?_
  refine (R_icmp_ge (t := 38) zf247_7 rfl rfl).trans ?_
  refine ite_congr rfl (fun c1_ => ?_) (fun c1_ => ?_)
  · refine (R_aload_n zf247_38 rfl zlt_111 rfl).trans ?_
    refine (R_bipush zf247_39 zb_35 rfl).trans ?_
    refine (R_dup2 zf247_41 rfl rfl rfl).trans ?_
    refine (R_ialdc zf247_42 zk_111 (by decide) rfl rfl).trans ?_
    refine (R_iconst zf247_43 zw_1 rfl).trans ?_
    refine (R_iadd zf247_44 rfl).trans ?_
    refine (R_iastc zf247_45 zk_111 (by decide) rfl rfl).trans ?_
    refine (R_iconst zf247_46 zw_0 rfl).trans ?_
    refine (R_istore_n (ls' := [.inr (.inr (.inl 97)), .inr (.inr (.inl 111)), .inl 0]) zf247_47 (Nat.le_of_ble_eq_true rfl) rfl rfl).trans ?_
    rfl
  · refine (R_aload_n zf247_10 rfl zlt_111 rfl).trans ?_
    refine (R_iload_n zf247_11 rfl rfl).trans ?_
    refine (R_callI zf247_12 zo_247 zsl_12_300 (by rw [zr_217]; rfl) zl_217 (Nat.le_of_ble_eq_true rfl) rfl rfl (Nat.le_of_ble_eq_true rfl) (Nat.le_of_ble_eq_true rfl) (es := [.inl x0]) rfl rfl).trans ?_
    refine congrArg (cI _) (funext fun a3_ => funext fun h2_ => ?_)
    refine (R_iconst zf247_15 zw_2 rfl).trans ?_
    refine (R_iadd zf247_16 rfl).trans ?_
    refine (R_iconst zf247_17 zw_0 rfl).trans ?_
    refine (R_aload_n zf247_18 rfl zlt_111 rfl).trans ?_
    refine (R_iload_n zf247_19 rfl rfl).trans ?_
    refine (R_callI zf247_20 zo_247 zsl_12_300 (by rw [zr_217]; rfl) zl_217 (Nat.le_of_ble_eq_true rfl) rfl rfl (Nat.le_of_ble_eq_true rfl) (Nat.le_of_ble_eq_true rfl) (es := [.inl x0]) rfl rfl).trans ?_
    refine congrArg (cI _) (funext fun a5_ => funext fun h4_ => ?_)
    refine (R_iconst zf247_23 zw_2 rfl).trans ?_
    refine (R_iadd zf247_24 rfl).trans ?_
    refine (R_iald zf247_25 zk_111 rfl).trans ?_
    refine ite_congr rfl (fun c6_ => ?_) (fun _ => rfl)
    refine (R_iconst zf247_26 zw_1 rfl).trans ?_
    refine (R_isub zf247_27 rfl).trans ?_
    refine (R_mmax zf247_28 zo_247 zsl_12_320 zml_12_320 zna_12_320 (Nat.le_of_ble_eq_true rfl) rfl).trans ?_
    refine (R_iast zf247_31 zk_111 rfl).trans ?_
    refine ite_congr rfl (fun c7_ => ?_) (fun _ => rfl)
    refine (R_iinc (ls' := [.inr (.inr (.inl 97)), .inr (.inr (.inl 111)), .inl (wI (x0 + 1))]) zf247_32 rfl rfl rfl).trans ?_
    refine (R_goto (t := 2) zf247_35 rfl).trans ?_
    rfl
-- CannonPost$LeagueReader.readClause()Z at 0
theorem q7_0 (d : Nat) (h : MH) : Run (d + 1) 7 0 [.inr (.inr (.inl 3)), vU, vU] [] h = (cI (Run d 8 0 [.inr (.inr (.inl 1))] [] h) fun a2_ h1_ => (if ¬ a2_ = 115 then Run (d + 1) 7 54 [.inr (.inr (.inl 3)), .inl a2_, vU] [] h1_ else (if ¬ (h1_ 3 2) = 0 then Run (d + 1) 7 54 [.inr (.inr (.inl 3)), .inl a2_, vU] [] h1_ else (cI (Run d 9 0 [.inr (.inr (.inl 3)), .inr (.inr (.inl 19)), .inl 0, .inl 0, .inl 4, vU, vU, vU, vU] [] (up (up h1_ 1 2 (wI ((h1_ 1 2) + 1))) 3 2 1)) fun a6_ h5_ => (if a6_ = 0 ∨ a6_ = 1 then some (some (.inl a6_), h5_) else none))))) := by
  refine (R_aload_n zf7_0 rfl zlt_3 rfl).trans ?_
  refine (R_getR zf7_1 zo_7 zfl_6_18 zk1_3 zft_6_1 zmr_3_1 rfl).trans ?_
  refine (R_vcallI zf7_4 zo_7 zvl_6_58 (by rw [zr_8]; rfl) zl_8 (Nat.le_of_ble_eq_true rfl) rfl rfl (Nat.le_of_ble_eq_true rfl) (Nat.le_of_ble_eq_true rfl) (es := [.inr (.inr (.inl 1))]) rfl rfl zk1_1 zo_8).trans ?_
  refine congrArg (cI _) (funext fun a2_ => funext fun h1_ => ?_)
  refine (R_istore_n (ls' := [.inr (.inr (.inl 3)), .inl a2_, vU]) zf7_7 (Nat.le_of_ble_eq_true rfl) rfl rfl).trans ?_
  refine (R_iload_n zf7_8 rfl rfl).trans ?_
  refine (R_bipush zf7_9 zb_115 rfl).trans ?_
  refine (R_icmp_ne (t := 54) zf7_11 rfl rfl).trans ?_
  refine ite_congr rfl (fun c3_ => ?_) (fun c3_ => ?_)
  · rfl
  · refine (R_aload_n zf7_14 rfl zlt_3 rfl).trans ?_
    refine (R_getZ zf7_15 zo_7 zfl_6_32 zk1_3 zft_6_2 rfl).trans ?_
    refine (R_if_ne (t := 54) zf7_18 rfl rfl).trans ?_
    refine ite_congr rfl (fun c4_ => ?_) (fun c4_ => ?_)
    · rfl
    · refine (R_aload_n zf7_21 rfl zlt_3 rfl).trans ?_
      refine (R_getR zf7_22 zo_7 zfl_6_18 zk1_3 zft_6_1 zmr_3_1 rfl).trans ?_
      refine (R_dup zf7_25 rfl rfl).trans ?_
      refine (R_getI zf7_26 zo_7 zfl_6_22 zk1_1 zft_10_2 rfl).trans ?_
      refine (R_iconst zf7_29 zw_1 rfl).trans ?_
      refine (R_iadd zf7_30 rfl).trans ?_
      refine (R_putI zf7_31 zo_7 zfl_6_22 zk1_1 zft_10_2 rfl).trans ?_
      refine (R_aload_n zf7_34 rfl zlt_3 rfl).trans ?_
      refine (R_iconst zf7_35 zw_1 rfl).trans ?_
      refine (R_putZ zf7_36 zo_7 zfl_6_32 zk1_3 zft_6_2 rfl rfl).trans ?_
      refine (R_aload_n zf7_39 rfl zlt_3 rfl).trans ?_
      refine (R_aload_n zf7_40 rfl zlt_3 rfl).trans ?_
      refine (R_getR zf7_41 zo_7 zfl_6_12 zk1_3 zft_6_0 zmr_3_0 rfl).trans ?_
      refine (R_getR zf7_44 zo_7 zfl_6_46 zk1_4 zft_5_0 zmr_4_0 rfl).trans ?_
      refine (R_iconst zf7_47 zw_0 rfl).trans ?_
      refine (R_iconst zf7_48 zw_0 rfl).trans ?_
      refine (R_iconst zf7_49 zw_4 rfl).trans ?_
      refine (R_vcallI zf7_50 zo_7 zvl_6_69 (by rw [zr_9]; rfl) zl_9 (Nat.le_of_ble_eq_true rfl) rfl rfl (Nat.le_of_ble_eq_true rfl) (Nat.le_of_ble_eq_true rfl) (es := [.inr (.inr (.inl 3)), .inr (.inr (.inl 19)), .inl 0, .inl 0, .inl 4, vU, vU, vU, vU]) rfl rfl zk1_3 zo_9).trans ?_
      refine congrArg (cI _) (funext fun a6_ => funext fun h5_ => ?_)
      exact R_ireturn_z zf7_53 zr_7
-- CannonPost$League.isWhole()Z at 0
theorem q17_0 (d : Nat) (h : MH) : Run (d + 1) 17 0 [.inr (.inr (.inl 4)), vU, vU] [] h = (if (h 4 3) < 2 then some (some (.inl 0), h) else (if 1 ≤ (h 4 4) then Run (d + 1) 17 20 [.inr (.inr (.inl 4)), .inl 0, vU] [] h else some (some (.inl 0), h))) := by
  refine (R_aload_n zf17_0 rfl zlt_4 rfl).trans ?_
  refine (R_getI zf17_1 zo_17 zfl_5_27 zk1_4 zft_5_3 rfl).trans ?_
  refine (R_iconst zf17_4 zw_2 rfl).trans ?_
  refine (R_icmp_lt (t := 16) zf17_5 rfl rfl).trans ?_
  refine ite_congr rfl (fun c1_ => ?_) (fun c1_ => ?_)
  · refine (R_iconst zf17_16 zw_0 rfl).trans ?_
    exact R_ireturn zf17_17 (by rw [zr_17]; rfl)
  · refine (R_aload_n zf17_8 rfl zlt_4 rfl).trans ?_
    refine (R_getI zf17_9 zo_17 zfl_5_31 zk1_4 zft_5_4 rfl).trans ?_
    refine (R_iconst zf17_12 zw_1 rfl).trans ?_
    refine (R_icmp_ge (t := 18) zf17_13 rfl rfl).trans ?_
    refine ite_congr rfl (fun c2_ => ?_) (fun c2_ => ?_)
    · refine (R_iconst zf17_18 zw_0 rfl).trans ?_
      refine (R_istore_n (ls' := [.inr (.inr (.inl 4)), .inl 0, vU]) zf17_19 (Nat.le_of_ble_eq_true rfl) rfl rfl).trans ?_
      rfl
    · refine (R_iconst zf17_16 zw_0 rfl).trans ?_
      exact R_ireturn zf17_17 (by rw [zr_17]; rfl)
-- CannonPost$LawReader.readClause()Z at 51
theorem q23_51 (d : Nat) (z0 : MV) (hz0 : cat z0 = 1) (z1 : MV) (hz1 : cat z1 = 1) (z2 : MV) (hz2 : cat z2 = 1) (y3 : Int) (h : MH) : Run (d + 1) 23 51 [.inr (.inr (.inl 5)), z0, z1, z2] [.inl y3] h = (if y3 = 0 then (if y3 = 0 then Run (d + 1) 23 93 [.inr (.inr (.inl 5)), z0, .inl y3, z2] [] h else (cI (Run d 8 0 [.inr (.inr (.inl 1))] [] h) fun a4_ h3_ => (cI (Run d 35 0 [.inl a4_] [] h3_) fun a6_ h5_ => (if ¬ a6_ = (-1) then Run (d + 1) 23 93 [.inr (.inr (.inl 5)), z0, .inl y3, z2] [] h5_ else (cV (Run d 33 0 [.inr (.inr (.inl 5)), .inl 13, .inl 0] [] h5_) fun h8_ => some (some (.inl 1), h8_)))))) else (cI (Run d 24 0 [.inr (.inr (.inl 5)), .inl 0, vU, vU, vU, vU] [] h) fun a10_ h9_ => (if ¬ a10_ = 0 then (if y3 = 0 then Run (d + 1) 23 93 [.inr (.inr (.inl 5)), z0, .inl y3, z2] [] h9_ else (cI (Run d 8 0 [.inr (.inr (.inl 1))] [] h9_) fun a14_ h13_ => (cI (Run d 35 0 [.inl a14_] [] h13_) fun a16_ h15_ => (if ¬ a16_ = (-1) then Run (d + 1) 23 93 [.inr (.inr (.inl 5)), z0, .inl y3, z2] [] h15_ else (cV (Run d 33 0 [.inr (.inr (.inl 5)), .inl 13, .inl 0] [] h15_) fun h18_ => some (some (.inl 1), h18_)))))) else some (some (.inl 0), h9_)))) := by
  refine (R_istore_n (ls' := [.inr (.inr (.inl 5)), z0, .inl y3, z2]) zf23_51 (Nat.le_of_ble_eq_true rfl) (st1_z rfl hz0 rfl) rfl).trans ?_
  refine (R_iload_n zf23_52 rfl rfl).trans ?_
  refine (R_if_eq (t := 66) zf23_53 rfl rfl).trans ?_
  refine ite_congr rfl (fun c1_ => ?_) (fun c1_ => ?_)
  · refine (R_iload_n zf23_66 rfl rfl).trans ?_
    refine (R_if_eq (t := 93) zf23_67 rfl rfl).trans ?_
    refine ite_congr rfl (fun c2_ => ?_) (fun c2_ => ?_)
    · rfl
    · refine (R_aload_n zf23_70 rfl zlt_5 rfl).trans ?_
      refine (R_getR zf23_71 zo_23 zfl_3_17 zk1_5 zft_3_2 zmr_5_2 rfl).trans ?_
      refine (R_vcallI zf23_74 zo_23 zvl_3_32 (by rw [zr_8]; rfl) zl_8 (Nat.le_of_ble_eq_true rfl) rfl rfl (Nat.le_of_ble_eq_true rfl) (Nat.le_of_ble_eq_true rfl) (es := [.inr (.inr (.inl 1))]) rfl rfl zk1_1 zo_8).trans ?_
      refine congrArg (cI _) (funext fun a4_ => funext fun h3_ => ?_)
      refine (R_callI zf23_77 zo_23 zsl_3_44 (by rw [zr_35]; rfl) zl_35 (Nat.le_of_ble_eq_true rfl) rfl rfl (Nat.le_of_ble_eq_true rfl) (Nat.le_of_ble_eq_true rfl) (es := [.inl a4_]) rfl rfl).trans ?_
      refine congrArg (cI _) (funext fun a6_ => funext fun h5_ => ?_)
      refine (R_iconst zf23_80 zw_m1 rfl).trans ?_
      refine (R_icmp_ne (t := 93) zf23_81 rfl rfl).trans ?_
      refine ite_congr rfl (fun c7_ => ?_) (fun c7_ => ?_)
      · rfl
      · refine (R_aload_n zf23_84 rfl zlt_5 rfl).trans ?_
        refine (R_bipush zf23_85 zb_13 rfl).trans ?_
        refine (R_iconst zf23_87 zw_0 rfl).trans ?_
        refine (R_vcallV zf23_88 zo_23 zvl_3_50 zr_33 zl_33 (Nat.le_of_ble_eq_true rfl) rfl rfl (Nat.le_of_ble_eq_true rfl) (Nat.le_of_ble_eq_true rfl) (es := [.inr (.inr (.inl 5)), .inl 13, .inl 0]) rfl rfl zk1_5 zo_33).trans ?_
        refine congrArg (cV _) (funext fun h8_ => ?_)
        refine (R_iconst zf23_91 zw_1 rfl).trans ?_
        exact R_ireturn zf23_92 (by rw [zr_23]; rfl)
  · refine (R_aload_n zf23_56 rfl zlt_5 rfl).trans ?_
    refine (R_iconst zf23_57 zw_0 rfl).trans ?_
    refine (R_vcallI zf23_58 zo_23 zvl_3_40 (by rw [zr_24]; rfl) zl_24 (Nat.le_of_ble_eq_true rfl) rfl rfl (Nat.le_of_ble_eq_true rfl) (Nat.le_of_ble_eq_true rfl) (es := [.inr (.inr (.inl 5)), .inl 0, vU, vU, vU, vU]) rfl rfl zk1_5 zo_24).trans ?_
    refine congrArg (cI _) (funext fun a10_ => funext fun h9_ => ?_)
    refine (R_if_ne (t := 66) zf23_61 rfl rfl).trans ?_
    refine ite_congr rfl (fun c11_ => ?_) (fun c11_ => ?_)
    · refine (R_iload_n zf23_66 rfl rfl).trans ?_
      refine (R_if_eq (t := 93) zf23_67 rfl rfl).trans ?_
      refine ite_congr rfl (fun c12_ => ?_) (fun c12_ => ?_)
      · rfl
      · refine (R_aload_n zf23_70 rfl zlt_5 rfl).trans ?_
        refine (R_getR zf23_71 zo_23 zfl_3_17 zk1_5 zft_3_2 zmr_5_2 rfl).trans ?_
        refine (R_vcallI zf23_74 zo_23 zvl_3_32 (by rw [zr_8]; rfl) zl_8 (Nat.le_of_ble_eq_true rfl) rfl rfl (Nat.le_of_ble_eq_true rfl) (Nat.le_of_ble_eq_true rfl) (es := [.inr (.inr (.inl 1))]) rfl rfl zk1_1 zo_8).trans ?_
        refine congrArg (cI _) (funext fun a14_ => funext fun h13_ => ?_)
        refine (R_callI zf23_77 zo_23 zsl_3_44 (by rw [zr_35]; rfl) zl_35 (Nat.le_of_ble_eq_true rfl) rfl rfl (Nat.le_of_ble_eq_true rfl) (Nat.le_of_ble_eq_true rfl) (es := [.inl a14_]) rfl rfl).trans ?_
        refine congrArg (cI _) (funext fun a16_ => funext fun h15_ => ?_)
        refine (R_iconst zf23_80 zw_m1 rfl).trans ?_
        refine (R_icmp_ne (t := 93) zf23_81 rfl rfl).trans ?_
        refine ite_congr rfl (fun c17_ => ?_) (fun c17_ => ?_)
        · rfl
        · refine (R_aload_n zf23_84 rfl zlt_5 rfl).trans ?_
          refine (R_bipush zf23_85 zb_13 rfl).trans ?_
          refine (R_iconst zf23_87 zw_0 rfl).trans ?_
          refine (R_vcallV zf23_88 zo_23 zvl_3_50 zr_33 zl_33 (Nat.le_of_ble_eq_true rfl) rfl rfl (Nat.le_of_ble_eq_true rfl) (Nat.le_of_ble_eq_true rfl) (es := [.inr (.inr (.inl 5)), .inl 13, .inl 0]) rfl rfl zk1_5 zo_33).trans ?_
          refine congrArg (cV _) (funext fun h18_ => ?_)
          refine (R_iconst zf23_91 zw_1 rfl).trans ?_
          exact R_ireturn zf23_92 (by rw [zr_23]; rfl)
    · refine (R_iconst zf23_64 zw_0 rfl).trans ?_
      exact R_ireturn zf23_65 (by rw [zr_23]; rfl)
-- CannonPost$Planbook.readDigits(III)Z at 0
theorem q40_0 (d : Nat) (x0 : Int) (x1 : Int) (x2 : Int) (h : MH) : Run (d + 1) 40 0 [.inr (.inr (.inl 7)), .inl x0, .inl x1, .inl x2] [] h = (cI (Run d 41 0 [.inr (.inr (.inl 7)), .inl x0, .inl x1] [] h) fun a2_ h1_ => (if ¬ a2_ = 0 then (cI (Run d 42 0 [.inr (.inr (.inl 1)), .inl x2, vU] [] h1_) fun a5_ h4_ => (if 0 ≤ (wI (x0 + 2)) ∧ (wI (x0 + 2)) < 64 then (if 0 ≤ (wI (x0 + 2)) ∧ (wI (x0 + 2)) < 64 then (if ((up h4_ 37 (wI (x0 + 2)).toNat a5_) 37 (wI (x0 + 2)).toNat) = (-1) then some (some (.inl 0), (up h4_ 37 (wI (x0 + 2)).toNat a5_)) else some (some (.inl 1), (up h4_ 37 (wI (x0 + 2)).toNat a5_))) else none) else none)) else some (some (.inl 0), h1_))) := by
  refine (R_aload_n zf40_0 rfl zlt_7 rfl).trans ?_
  refine (R_iload_n zf40_1 rfl rfl).trans ?_
  refine (R_iload_n zf40_2 rfl rfl).trans ?_
  refine (R_vcallI zf40_3 zo_40 zvl_8_68 (by rw [zr_41]; rfl) zl_41 (Nat.le_of_ble_eq_true rfl) rfl rfl (Nat.le_of_ble_eq_true rfl) (Nat.le_of_ble_eq_true rfl) (es := [.inr (.inr (.inl 7)), .inl x0, .inl x1]) rfl rfl zk1_7 zo_41).trans ?_
  refine congrArg (cI _) (funext fun a2_ => funext fun h1_ => ?_)
  refine (R_if_ne (t := 11) zf40_6 rfl rfl).trans ?_
  refine ite_congr rfl (fun c3_ => ?_) (fun c3_ => ?_)
  · refine (R_aload_n zf40_11 rfl zlt_7 rfl).trans ?_
    refine (R_getR zf40_12 zo_40 zfl_8_20 zk1_7 zft_8_3 zmr_7_3 rfl).trans ?_
    refine (R_iload_n zf40_15 rfl rfl).trans ?_
    refine (R_iconst zf40_16 zw_2 rfl).trans ?_
    refine (R_iadd zf40_17 rfl).trans ?_
    refine (R_aload_n zf40_18 rfl zlt_7 rfl).trans ?_
    refine (R_getR zf40_19 zo_40 zfl_8_23 zk1_7 zft_8_5 zmr_7_5 rfl).trans ?_
    refine (R_iload_n zf40_22 rfl rfl).trans ?_
    refine (R_vcallI zf40_23 zo_40 zvl_8_72 (by rw [zr_42]; rfl) zl_42 (Nat.le_of_ble_eq_true rfl) rfl rfl (Nat.le_of_ble_eq_true rfl) (Nat.le_of_ble_eq_true rfl) (es := [.inr (.inr (.inl 1)), .inl x2, vU]) rfl rfl zk1_1 zo_42).trans ?_
    refine congrArg (cI _) (funext fun a5_ => funext fun h4_ => ?_)
    refine (R_iast zf40_26 zk_37 rfl).trans ?_
    refine ite_congr rfl (fun c6_ => ?_) (fun _ => rfl)
    refine (R_aload_n zf40_27 rfl zlt_7 rfl).trans ?_
    refine (R_getR zf40_28 zo_40 zfl_8_20 zk1_7 zft_8_3 zmr_7_3 rfl).trans ?_
    refine (R_iload_n zf40_31 rfl rfl).trans ?_
    refine (R_iconst zf40_32 zw_2 rfl).trans ?_
    refine (R_iadd zf40_33 rfl).trans ?_
    refine (R_iald zf40_34 zk_37 rfl).trans ?_
    refine ite_congr rfl (fun c7_ => ?_) (fun _ => rfl)
    refine (R_iconst zf40_35 zw_m1 rfl).trans ?_
    refine (R_icmp_eq (t := 43) zf40_36 rfl rfl).trans ?_
    refine ite_congr rfl (fun c8_ => ?_) (fun c8_ => ?_)
    · refine (R_iconst zf40_43 zw_0 rfl).trans ?_
      exact R_ireturn zf40_44 (by rw [zr_40]; rfl)
    · refine (R_iconst zf40_39 zw_1 rfl).trans ?_
      refine (R_goto (t := 44) zf40_40 rfl).trans ?_
      exact R_ireturn zf40_44 (by rw [zr_40]; rfl)
  · refine (R_iconst zf40_9 zw_0 rfl).trans ?_
    exact R_ireturn zf40_10 (by rw [zr_40]; rfl)
-- CannonPost$Planbook.readFirst(II)Z at 0
theorem q41_0 (d : Nat) (x0 : Int) (x1 : Int) (h : MH) : Run (d + 1) 41 0 [.inr (.inr (.inl 7)), .inl x0, .inl x1] [] h = (if 0 ≤ x0 ∧ x0 < 64 then (cI (Run d 42 0 [.inr (.inr (.inl 1)), .inl 9, vU] [] (up h 37 x0.toNat x1)) fun a3_ h2_ => (if 0 ≤ (wI (x0 + 1)) ∧ (wI (x0 + 1)) < 64 then (if 0 ≤ (wI (x0 + 2)) ∧ (wI (x0 + 2)) < 64 then (if 0 ≤ (wI (x0 + 3)) ∧ (wI (x0 + 3)) < 64 then (if 0 ≤ (wI (x0 + 1)) ∧ (wI (x0 + 1)) < 64 then (if ((up (up (up h2_ 37 (wI (x0 + 1)).toNat a3_) 37 (wI (x0 + 2)).toNat (-1)) 37 (wI (x0 + 3)).toNat (-1)) 37 (wI (x0 + 1)).toNat) = (-1) then some (some (.inl 0), (up (up (up h2_ 37 (wI (x0 + 1)).toNat a3_) 37 (wI (x0 + 2)).toNat (-1)) 37 (wI (x0 + 3)).toNat (-1))) else some (some (.inl 1), (up (up (up h2_ 37 (wI (x0 + 1)).toNat a3_) 37 (wI (x0 + 2)).toNat (-1)) 37 (wI (x0 + 3)).toNat (-1)))) else none) else none) else none) else none)) else none) := by
  refine (R_aload_n zf41_0 rfl zlt_7 rfl).trans ?_
  refine (R_getR zf41_1 zo_41 zfl_8_20 zk1_7 zft_8_3 zmr_7_3 rfl).trans ?_
  refine (R_iload_n zf41_4 rfl rfl).trans ?_
  refine (R_iload_n zf41_5 rfl rfl).trans ?_
  refine (R_iast zf41_6 zk_37 rfl).trans ?_
  refine ite_congr rfl (fun c1_ => ?_) (fun _ => rfl)
  refine (R_aload_n zf41_7 rfl zlt_7 rfl).trans ?_
  refine (R_getR zf41_8 zo_41 zfl_8_20 zk1_7 zft_8_3 zmr_7_3 rfl).trans ?_
  refine (R_iload_n zf41_11 rfl rfl).trans ?_
  refine (R_iconst zf41_12 zw_1 rfl).trans ?_
  refine (R_iadd zf41_13 rfl).trans ?_
  refine (R_aload_n zf41_14 rfl zlt_7 rfl).trans ?_
  refine (R_getR zf41_15 zo_41 zfl_8_23 zk1_7 zft_8_5 zmr_7_5 rfl).trans ?_
  refine (R_bipush zf41_18 zb_9 rfl).trans ?_
  refine (R_vcallI zf41_20 zo_41 zvl_8_72 (by rw [zr_42]; rfl) zl_42 (Nat.le_of_ble_eq_true rfl) rfl rfl (Nat.le_of_ble_eq_true rfl) (Nat.le_of_ble_eq_true rfl) (es := [.inr (.inr (.inl 1)), .inl 9, vU]) rfl rfl zk1_1 zo_42).trans ?_
  refine congrArg (cI _) (funext fun a3_ => funext fun h2_ => ?_)
  refine (R_iast zf41_23 zk_37 rfl).trans ?_
  refine ite_congr rfl (fun c4_ => ?_) (fun _ => rfl)
  refine (R_aload_n zf41_24 rfl zlt_7 rfl).trans ?_
  refine (R_getR zf41_25 zo_41 zfl_8_20 zk1_7 zft_8_3 zmr_7_3 rfl).trans ?_
  refine (R_iload_n zf41_28 rfl rfl).trans ?_
  refine (R_iconst zf41_29 zw_2 rfl).trans ?_
  refine (R_iadd zf41_30 rfl).trans ?_
  refine (R_iconst zf41_31 zw_m1 rfl).trans ?_
  refine (R_iast zf41_32 zk_37 rfl).trans ?_
  refine ite_congr rfl (fun c5_ => ?_) (fun _ => rfl)
  refine (R_aload_n zf41_33 rfl zlt_7 rfl).trans ?_
  refine (R_getR zf41_34 zo_41 zfl_8_20 zk1_7 zft_8_3 zmr_7_3 rfl).trans ?_
  refine (R_iload_n zf41_37 rfl rfl).trans ?_
  refine (R_iconst zf41_38 zw_3 rfl).trans ?_
  refine (R_iadd zf41_39 rfl).trans ?_
  refine (R_iconst zf41_40 zw_m1 rfl).trans ?_
  refine (R_iast zf41_41 zk_37 rfl).trans ?_
  refine ite_congr rfl (fun c6_ => ?_) (fun _ => rfl)
  refine (R_aload_n zf41_42 rfl zlt_7 rfl).trans ?_
  refine (R_getR zf41_43 zo_41 zfl_8_20 zk1_7 zft_8_3 zmr_7_3 rfl).trans ?_
  refine (R_iload_n zf41_46 rfl rfl).trans ?_
  refine (R_iconst zf41_47 zw_1 rfl).trans ?_
  refine (R_iadd zf41_48 rfl).trans ?_
  refine (R_iald zf41_49 zk_37 rfl).trans ?_
  refine ite_congr rfl (fun c7_ => ?_) (fun _ => rfl)
  refine (R_iconst zf41_50 zw_m1 rfl).trans ?_
  refine (R_icmp_eq (t := 58) zf41_51 rfl rfl).trans ?_
  refine ite_congr rfl (fun c8_ => ?_) (fun c8_ => ?_)
  · refine (R_iconst zf41_58 zw_0 rfl).trans ?_
    exact R_ireturn zf41_59 (by rw [zr_41]; rfl)
  · refine (R_iconst zf41_54 zw_1 rfl).trans ?_
    refine (R_goto (t := 59) zf41_55 rfl).trans ?_
    exact R_ireturn zf41_59 (by rw [zr_41]; rfl)
-- CannonPost$Planbook.readPowder(I)Z at 0
theorem q43_0 (d : Nat) (x0 : Int) (h : MH) : Run (d + 1) 43 0 [.inr (.inr (.inl 7)), .inl x0, vU, vU] [] h = (cI (Run d 42 0 [.inr (.inr (.inl 1)), .inl 9, vU] [] h) fun a2_ h1_ => (if ¬ a2_ = (-1) then (cI (Run d 42 0 [.inr (.inr (.inl 1)), .inl 9, vU] [] h1_) fun a5_ h4_ => (if 0 ≤ (wI (x0 + 3)) ∧ (wI (x0 + 3)) < 64 then (if a5_ = (-1) then some (some (.inl 0), (up h4_ 37 (wI (x0 + 3)).toNat (wI ((wI (10 * a2_)) + a5_)))) else some (some (.inl 1), (up h4_ 37 (wI (x0 + 3)).toNat (wI ((wI (10 * a2_)) + a5_))))) else none)) else some (some (.inl 0), h1_))) := by
  refine (R_aload_n zf43_0 rfl zlt_7 rfl).trans ?_
  refine (R_getR zf43_1 zo_43 zfl_8_23 zk1_7 zft_8_5 zmr_7_5 rfl).trans ?_
  refine (R_bipush zf43_4 zb_9 rfl).trans ?_
  refine (R_vcallI zf43_6 zo_43 zvl_8_72 (by rw [zr_42]; rfl) zl_42 (Nat.le_of_ble_eq_true rfl) rfl rfl (Nat.le_of_ble_eq_true rfl) (Nat.le_of_ble_eq_true rfl) (es := [.inr (.inr (.inl 1)), .inl 9, vU]) rfl rfl zk1_1 zo_42).trans ?_
  refine congrArg (cI _) (funext fun a2_ => funext fun h1_ => ?_)
  refine (R_istore_n (ls' := [.inr (.inr (.inl 7)), .inl x0, .inl a2_, vU]) zf43_9 (Nat.le_of_ble_eq_true rfl) rfl rfl).trans ?_
  refine (R_iload_n zf43_10 rfl rfl).trans ?_
  refine (R_iconst zf43_11 zw_m1 rfl).trans ?_
  refine (R_icmp_ne (t := 17) zf43_12 rfl rfl).trans ?_
  refine ite_congr rfl (fun c3_ => ?_) (fun c3_ => ?_)
  · refine (R_aload_n zf43_17 rfl zlt_7 rfl).trans ?_
    refine (R_getR zf43_18 zo_43 zfl_8_23 zk1_7 zft_8_5 zmr_7_5 rfl).trans ?_
    refine (R_bipush zf43_21 zb_9 rfl).trans ?_
    refine (R_vcallI zf43_23 zo_43 zvl_8_72 (by rw [zr_42]; rfl) zl_42 (Nat.le_of_ble_eq_true rfl) rfl rfl (Nat.le_of_ble_eq_true rfl) (Nat.le_of_ble_eq_true rfl) (es := [.inr (.inr (.inl 1)), .inl 9, vU]) rfl rfl zk1_1 zo_42).trans ?_
    refine congrArg (cI _) (funext fun a5_ => funext fun h4_ => ?_)
    refine (R_istore_n (ls' := [.inr (.inr (.inl 7)), .inl x0, .inl a2_, .inl a5_]) zf43_26 (Nat.le_of_ble_eq_true rfl) rfl rfl).trans ?_
    refine (R_aload_n zf43_27 rfl zlt_7 rfl).trans ?_
    refine (R_getR zf43_28 zo_43 zfl_8_20 zk1_7 zft_8_3 zmr_7_3 rfl).trans ?_
    refine (R_iload_n zf43_31 rfl rfl).trans ?_
    refine (R_iconst zf43_32 zw_3 rfl).trans ?_
    refine (R_iadd zf43_33 rfl).trans ?_
    refine (R_bipush zf43_34 zb_10 rfl).trans ?_
    refine (R_iload_n zf43_36 rfl rfl).trans ?_
    refine (R_imul zf43_37 rfl).trans ?_
    refine (R_iload_n zf43_38 rfl rfl).trans ?_
    refine (R_iadd zf43_39 rfl).trans ?_
    refine (R_iast zf43_40 zk_37 rfl).trans ?_
    refine ite_congr rfl (fun c6_ => ?_) (fun _ => rfl)
    refine (R_iload_n zf43_41 rfl rfl).trans ?_
    refine (R_iconst zf43_42 zw_m1 rfl).trans ?_
    refine (R_icmp_eq (t := 50) zf43_43 rfl rfl).trans ?_
    refine ite_congr rfl (fun c7_ => ?_) (fun c7_ => ?_)
    · refine (R_iconst zf43_50 zw_0 rfl).trans ?_
      exact R_ireturn zf43_51 (by rw [zr_43]; rfl)
    · refine (R_iconst zf43_46 zw_1 rfl).trans ?_
      refine (R_goto (t := 51) zf43_47 rfl).trans ?_
      exact R_ireturn zf43_51 (by rw [zr_43]; rfl)
  · refine (R_iconst zf43_15 zw_0 rfl).trans ?_
    exact R_ireturn zf43_16 (by rw [zr_43]; rfl)
-- java/util/Arrays.fill([II)V at 5
theorem q48_5_1 (d : Nat) (x0 : Int) (x1 : Int) (x2 : Int) (h : MH) : Run d 48 5 [.inr (.inr (.inl 91)), .inl x0, .inl x1, .inl x2] [] h = (if x2 ≤ x1 then some (none, h) else (if 0 ≤ x1 ∧ x1 < 37 then Run d 48 5 [.inr (.inr (.inl 91)), .inl x0, .inl (wI (x1 + 1)), .inl x2] [] (up h 91 x1.toNat x0) else none)) := by
  refine (R_iload_n zf48_5 rfl rfl).trans ?_
  refine (R_iload_n zf48_6 rfl rfl).trans ?_
  refine (R_icmp_ge (t := 20) zf48_7 rfl rfl).trans ?_
  refine ite_congr rfl (fun c1_ => ?_) (fun c1_ => ?_)
  · exact R_return zf48_20 zr_48
  · refine (R_aload_n zf48_10 rfl zlt_91 rfl).trans ?_
    refine (R_iload_n zf48_11 rfl rfl).trans ?_
    refine (R_iload_n zf48_12 rfl rfl).trans ?_
    refine (R_iast zf48_13 zk_91 rfl).trans ?_
    refine ite_congr rfl (fun c2_ => ?_) (fun _ => rfl)
    refine (R_iinc (ls' := [.inr (.inr (.inl 91)), .inl x0, .inl (wI (x1 + 1)), .inl x2]) zf48_14 rfl rfl rfl).trans ?_
    refine (R_goto (t := 5) zf48_17 rfl).trans ?_
    rfl
-- CannonPost$State.begin(LCannonPost$League;)V at 70
theorem q47_70 (d : Nat) (x0 : Int) (h : MH) : Run (d + 1) 47 70 [.inr (.inr (.inl 12)), .inr (.inr (.inl 2)), .inl x0] [] h = (if (h 2 4) ≤ x0 then some (none, h) else (cI (Run d 19 0 [.inr (.inr (.inl 2)), .inl x0] [] h) fun a3_ h2_ => (if 0 ≤ (wI (6 + x0)) ∧ (wI (6 + x0)) < 37 then Run (d + 1) 47 70 [.inr (.inr (.inl 12)), .inr (.inr (.inl 2)), .inl (wI (x0 + 1))] [] (up h2_ 91 (wI (6 + x0)).toNat a3_) else none))) := by
  refine (R_iload_n zf47_70 rfl rfl).trans ?_
  refine (R_aload_n zf47_71 rfl zlt_2 rfl).trans ?_
  refine (R_getI zf47_72 zo_47 zfl_9_46 zk1_2 zft_5_4 rfl).trans ?_
  refine (R_icmp_ge (t := 98) zf47_75 rfl rfl).trans ?_
  refine ite_congr rfl (fun c1_ => ?_) (fun c1_ => ?_)
  · exact R_return zf47_98 zr_47
  · refine (R_aload_n zf47_78 rfl zlt_12 rfl).trans ?_
    refine (R_getR zf47_79 zo_47 zfl_9_15 zk1_12 zft_9_0 zmr_12_0 rfl).trans ?_
    refine (R_bipush zf47_82 zb_6 rfl).trans ?_
    refine (R_iload_n zf47_84 rfl rfl).trans ?_
    refine (R_iadd zf47_85 rfl).trans ?_
    refine (R_aload_n zf47_86 rfl zlt_2 rfl).trans ?_
    refine (R_iload_n zf47_87 rfl rfl).trans ?_
    refine (R_vcallI zf47_88 zo_47 zvl_9_49 (by rw [zr_19]; rfl) zl_19 (Nat.le_of_ble_eq_true rfl) rfl rfl (Nat.le_of_ble_eq_true rfl) (Nat.le_of_ble_eq_true rfl) (es := [.inr (.inr (.inl 2)), .inl x0]) rfl rfl zk1_2 zo_19).trans ?_
    refine congrArg (cI _) (funext fun a3_ => funext fun h2_ => ?_)
    refine (R_iast zf47_91 zk_91 rfl).trans ?_
    refine ite_congr rfl (fun c4_ => ?_) (fun _ => rfl)
    refine (R_iinc (ls' := [.inr (.inr (.inl 12)), .inr (.inr (.inl 2)), .inl (wI (x0 + 1))]) zf47_92 rfl rfl rfl).trans ?_
    refine (R_goto (t := 70) zf47_95 rfl).trans ?_
    rfl
-- CannonPost$League.firstHay(I)I at 0
theorem q52_0 (d : Nat) (x0 : Int) (h : MH) : Run d 52 0 [.inr (.inr (.inl 2)), .inl x0] [] h = (if 0 ≤ (wI ((wI (x0 * 3)) + 2)) ∧ (wI ((wI (x0 * 3)) + 2)) < 24 then some (some (.inl (h 17 (wI ((wI (x0 * 3)) + 2)).toNat)), h) else none) := by
  refine (R_aload_n zf52_0 rfl zlt_2 rfl).trans ?_
  refine (R_getR zf52_1 zo_52 zfl_5_15 zk1_2 zft_5_1 zmr_2_1 rfl).trans ?_
  refine (R_iload_n zf52_4 rfl rfl).trans ?_
  refine (R_iconst zf52_5 zw_3 rfl).trans ?_
  refine (R_imul zf52_6 rfl).trans ?_
  refine (R_iconst zf52_7 zw_2 rfl).trans ?_
  refine (R_iadd zf52_8 rfl).trans ?_
  refine (R_iald zf52_9 zk_17 rfl).trans ?_
  refine ite_congr rfl (fun c1_ => ?_) (fun _ => rfl)
  exact R_ireturn_i zf52_10 zr_52
-- java/util/Arrays.fill([II)V at 5
theorem q48_5_2 (d : Nat) (x0 : Int) (x1 : Int) (x2 : Int) (h : MH) : Run d 48 5 [.inr (.inr (.inl 39)), .inl x0, .inl x1, .inl x2] [] h = (if x2 ≤ x1 then some (none, h) else (if 0 ≤ x1 ∧ x1 < 40 then Run d 48 5 [.inr (.inr (.inl 39)), .inl x0, .inl (wI (x1 + 1)), .inl x2] [] (up h 39 x1.toNat x0) else none)) := by
  refine (R_iload_n zf48_5 rfl rfl).trans ?_
  refine (R_iload_n zf48_6 rfl rfl).trans ?_
  refine (R_icmp_ge (t := 20) zf48_7 rfl rfl).trans ?_
  refine ite_congr rfl (fun c1_ => ?_) (fun c1_ => ?_)
  · exact R_return zf48_20 zr_48
  · refine (R_aload_n zf48_10 rfl zlt_39 rfl).trans ?_
    refine (R_iload_n zf48_11 rfl rfl).trans ?_
    refine (R_iload_n zf48_12 rfl rfl).trans ?_
    refine (R_iast zf48_13 zk_39 rfl).trans ?_
    refine ite_congr rfl (fun c2_ => ?_) (fun _ => rfl)
    refine (R_iinc (ls' := [.inr (.inr (.inl 39)), .inl x0, .inl (wI (x1 + 1)), .inl x2]) zf48_14 rfl rfl rfl).trans ?_
    refine (R_goto (t := 5) zf48_17 rfl).trans ?_
    rfl
-- CannonPost$State.passHour(I)V at 60
theorem q100_60 (d : Nat) (x0 : Int) (x1 : Int) (h : MH) : Run d 100 60 [.inr (.inr (.inl 12)), .inl x0, .inl x1] [] h = (if x0 ≤ x1 then some (none, h) else (if 0 ≤ (wI (21 + x1)) ∧ (wI (21 + x1)) < 37 then (if 0 ≤ (wI (21 + x1)) ∧ (wI (21 + x1)) < 37 then Run d 100 60 [.inr (.inr (.inl 12)), .inl x0, .inl (wI (x1 + 1))] [] (up h 91 (wI (21 + x1)).toNat (mn 9 (wI ((h 91 (wI (21 + x1)).toNat) + 1)))) else none) else none)) := by
  refine (R_iload_n zf100_60 rfl rfl).trans ?_
  refine (R_iload_n zf100_61 rfl rfl).trans ?_
  refine (R_icmp_ge (t := 96) zf100_62 rfl rfl).trans ?_
  refine ite_congr rfl (fun c1_ => ?_) (fun c1_ => ?_)
  · exact R_return zf100_96 zr_100
  · refine (R_aload_n zf100_65 rfl zlt_12 rfl).trans ?_
    refine (R_getR zf100_66 zo_100 zfl_9_15 zk1_12 zft_9_0 zmr_12_0 rfl).trans ?_
    refine (R_bipush zf100_69 zb_21 rfl).trans ?_
    refine (R_iload_n zf100_71 rfl rfl).trans ?_
    refine (R_iadd zf100_72 rfl).trans ?_
    refine (R_bipush zf100_73 zb_9 rfl).trans ?_
    refine (R_aload_n zf100_75 rfl zlt_12 rfl).trans ?_
    refine (R_getR zf100_76 zo_100 zfl_9_15 zk1_12 zft_9_0 zmr_12_0 rfl).trans ?_
    refine (R_bipush zf100_79 zb_21 rfl).trans ?_
    refine (R_iload_n zf100_81 rfl rfl).trans ?_
    refine (R_iadd zf100_82 rfl).trans ?_
    refine (R_iald zf100_83 zk_91 rfl).trans ?_
    refine ite_congr rfl (fun c2_ => ?_) (fun _ => rfl)
    refine (R_iconst zf100_84 zw_1 rfl).trans ?_
    refine (R_iadd zf100_85 rfl).trans ?_
    refine (R_mmin zf100_86 zo_100 zsl_9_64 zml_9_64 zna_9_64 (Nat.le_of_ble_eq_true rfl) rfl).trans ?_
    refine (R_iast zf100_89 zk_91 rfl).trans ?_
    refine ite_congr rfl (fun c3_ => ?_) (fun _ => rfl)
    refine (R_iinc (ls' := [.inr (.inr (.inl 12)), .inl x0, .inl (wI (x1 + 1))]) zf100_90 rfl rfl rfl).trans ?_
    refine (R_goto (t := 60) zf100_93 rfl).trans ?_
    rfl
-- CannonPost.allSayable(LCannonPost$State;I)I at 0
theorem q105_0 (d : Nat) (x0 : Int) (h : MH) : Run (d + 1) 105 0 [.inr (.inr (.inl 0)), .inr (.inr (.inl 12)), .inl x0, vU, vU, vU] [] h = (if 0 ≤ (wI (6 + x0)) ∧ (wI (6 + x0)) < 37 then (if 0 ≤ (wI (29 + (h 91 (wI (6 + x0)).toNat))) ∧ (wI (29 + (h 91 (wI (6 + x0)).toNat))) < 37 then Run (d + 1) 105 24 [.inr (.inr (.inl 0)), .inr (.inr (.inl 12)), .inl x0, .inl (h 91 (wI (29 + (h 91 (wI (6 + x0)).toNat))).toNat), .inl 0, .inl 0] [] h else none) else none) := by
  refine (R_aload_n zf105_0 rfl zlt_12 rfl).trans ?_
  refine (R_getR zf105_1 zo_105 zfl_11_162 zk1_12 zft_9_0 zmr_12_0 rfl).trans ?_
  refine (R_bipush zf105_4 zb_29 rfl).trans ?_
  refine (R_aload_n zf105_6 rfl zlt_12 rfl).trans ?_
  refine (R_getR zf105_7 zo_105 zfl_11_162 zk1_12 zft_9_0 zmr_12_0 rfl).trans ?_
  refine (R_bipush zf105_10 zb_6 rfl).trans ?_
  refine (R_iload_n zf105_12 rfl rfl).trans ?_
  refine (R_iadd zf105_13 rfl).trans ?_
  refine (R_iald zf105_14 zk_91 rfl).trans ?_
  refine ite_congr rfl (fun c1_ => ?_) (fun _ => rfl)
  refine (R_iadd zf105_15 rfl).trans ?_
  refine (R_iald zf105_16 zk_91 rfl).trans ?_
  refine ite_congr rfl (fun c2_ => ?_) (fun _ => rfl)
  refine (R_istore_n (ls' := [.inr (.inr (.inl 0)), .inr (.inr (.inl 12)), .inl x0, .inl (h 91 (wI (29 + (h 91 (wI (6 + x0)).toNat))).toNat), vU, vU]) zf105_17 (Nat.le_of_ble_eq_true rfl) rfl rfl).trans ?_
  refine (R_iconst zf105_18 zw_0 rfl).trans ?_
  refine (R_istore (ls' := [.inr (.inr (.inl 0)), .inr (.inr (.inl 12)), .inl x0, .inl (h 91 (wI (29 + (h 91 (wI (6 + x0)).toNat))).toNat), .inl 0, vU]) zf105_19 (Nat.le_of_ble_eq_true rfl) rfl rfl).trans ?_
  refine (R_iconst zf105_21 zw_0 rfl).trans ?_
  refine (R_istore (ls' := [.inr (.inr (.inl 0)), .inr (.inr (.inl 12)), .inl x0, .inl (h 91 (wI (29 + (h 91 (wI (6 + x0)).toNat))).toNat), .inl 0, .inl 0]) zf105_22 (Nat.le_of_ble_eq_true rfl) rfl rfl).trans ?_
  rfl
-- CannonPost.canFire(LCannonPost$State;II)Z at 0
theorem q71_0_1 (d : Nat) (x0 : Int) (x1 : Int) (h : MH) : Run (d + 1) 71 0 [.inr (.inr (.inl 0)), .inr (.inr (.inl 13)), .inl x0, .inl x1] [] h = (cI (Run d 72 0 [.inr (.inr (.inl 2)), .inl x0] [] h) fun a2_ h1_ => (if a2_ = 0 then some (some (.inl 0), h1_) else (if 0 ≤ (wI (16 + x0)) ∧ (wI (16 + x0)) < 37 then (if ¬ (h1_ 93 (wI (16 + x0)).toNat) = 0 then some (some (.inl 0), h1_) else (cI (Run d 73 0 [.inl x1] [] h1_) fun a7_ h6_ => (if a7_ = 0 then some (some (.inl 0), h6_) else (if (h6_ 93 0) < x1 then some (some (.inl 0), h6_) else some (some (.inl 1), h6_))))) else none))) := by
  refine (R_aload_n zf71_0 rfl zlt_0 rfl).trans ?_
  refine (R_getR zf71_1 zo_71 zfl_11_19 zk1_0 zft_11_1 zmr_0_1 rfl).trans ?_
  refine (R_iload_n zf71_4 rfl rfl).trans ?_
  refine (R_vcallI zf71_5 zo_71 zvl_11_178 (by rw [zr_72]; rfl) zl_72 (Nat.le_of_ble_eq_true rfl) rfl rfl (Nat.le_of_ble_eq_true rfl) (Nat.le_of_ble_eq_true rfl) (es := [.inr (.inr (.inl 2)), .inl x0]) rfl rfl zk1_2 zo_72).trans ?_
  refine congrArg (cI _) (funext fun a2_ => funext fun h1_ => ?_)
  refine (R_if_eq (t := 44) zf71_8 rfl rfl).trans ?_
  refine ite_congr rfl (fun c3_ => ?_) (fun c3_ => ?_)
  · refine (R_iconst zf71_44 zw_0 rfl).trans ?_
    exact R_ireturn zf71_45 (by rw [zr_71]; rfl)
  · refine (R_aload_n zf71_11 rfl zlt_13 rfl).trans ?_
    refine (R_getR zf71_12 zo_71 zfl_11_162 zk1_13 zft_9_0 zmr_13_0 rfl).trans ?_
    refine (R_bipush zf71_15 zb_16 rfl).trans ?_
    refine (R_iload_n zf71_17 rfl rfl).trans ?_
    refine (R_iadd zf71_18 rfl).trans ?_
    refine (R_iald zf71_19 zk_93 rfl).trans ?_
    refine ite_congr rfl (fun c4_ => ?_) (fun _ => rfl)
    refine (R_if_ne (t := 44) zf71_20 rfl rfl).trans ?_
    refine ite_congr rfl (fun c5_ => ?_) (fun c5_ => ?_)
    · refine (R_iconst zf71_44 zw_0 rfl).trans ?_
      exact R_ireturn zf71_45 (by rw [zr_71]; rfl)
    · refine (R_iload_n zf71_23 rfl rfl).trans ?_
      refine (R_callI zf71_24 zo_71 zsl_11_268 (by rw [zr_73]; rfl) zl_73 (Nat.le_of_ble_eq_true rfl) rfl rfl (Nat.le_of_ble_eq_true rfl) (Nat.le_of_ble_eq_true rfl) (es := [.inl x1]) rfl rfl).trans ?_
      refine congrArg (cI _) (funext fun a7_ => funext fun h6_ => ?_)
      refine (R_if_eq (t := 44) zf71_27 rfl rfl).trans ?_
      refine ite_congr rfl (fun c8_ => ?_) (fun c8_ => ?_)
      · refine (R_iconst zf71_44 zw_0 rfl).trans ?_
        exact R_ireturn zf71_45 (by rw [zr_71]; rfl)
      · refine (R_iload_n zf71_30 rfl rfl).trans ?_
        refine (R_aload_n zf71_31 rfl zlt_13 rfl).trans ?_
        refine (R_getR zf71_32 zo_71 zfl_11_162 zk1_13 zft_9_0 zmr_13_0 rfl).trans ?_
        refine (R_iconst zf71_35 zw_0 rfl).trans ?_
        refine (R_ialdc zf71_36 zk_93 (by decide) rfl rfl).trans ?_
        refine (R_icmp_gt (t := 44) zf71_37 rfl rfl).trans ?_
        refine ite_congr rfl (fun c9_ => ?_) (fun c9_ => ?_)
        · refine (R_iconst zf71_44 zw_0 rfl).trans ?_
          exact R_ireturn zf71_45 (by rw [zr_71]; rfl)
        · refine (R_iconst zf71_40 zw_1 rfl).trans ?_
          refine (R_goto (t := 45) zf71_41 rfl).trans ?_
          exact R_ireturn zf71_45 (by rw [zr_71]; rfl)
-- CannonPost$State.blows(II)Z at 0
theorem q96_0_1 (d : Nat) (x0 : Int) (x1 : Int) (h : MH) : Run d 96 0 [.inr (.inr (.inl 13)), .inl x0, .inl x1] [] h = (if ¬ (h 93 1) = x0 then some (some (.inl 0), h) else (if ¬ (h 93 2) = x1 then some (some (.inl 0), h) else some (some (.inl 1), h))) := by
  refine (R_aload_n zf96_0 rfl zlt_13 rfl).trans ?_
  refine (R_getR zf96_1 zo_96 zfl_9_15 zk1_13 zft_9_0 zmr_13_0 rfl).trans ?_
  refine (R_iconst zf96_4 zw_1 rfl).trans ?_
  refine (R_ialdc zf96_5 zk_93 (by decide) rfl rfl).trans ?_
  refine (R_iload_n zf96_6 rfl rfl).trans ?_
  refine (R_icmp_ne (t := 24) zf96_7 rfl rfl).trans ?_
  refine ite_congr rfl (fun c1_ => ?_) (fun c1_ => ?_)
  · refine (R_iconst zf96_24 zw_0 rfl).trans ?_
    exact R_ireturn zf96_25 (by rw [zr_96]; rfl)
  · refine (R_aload_n zf96_10 rfl zlt_13 rfl).trans ?_
    refine (R_getR zf96_11 zo_96 zfl_9_15 zk1_13 zft_9_0 zmr_13_0 rfl).trans ?_
    refine (R_iconst zf96_14 zw_2 rfl).trans ?_
    refine (R_ialdc zf96_15 zk_93 (by decide) rfl rfl).trans ?_
    refine (R_iload_n zf96_16 rfl rfl).trans ?_
    refine (R_icmp_ne (t := 24) zf96_17 rfl rfl).trans ?_
    refine ite_congr rfl (fun c2_ => ?_) (fun c2_ => ?_)
    · refine (R_iconst zf96_24 zw_0 rfl).trans ?_
      exact R_ireturn zf96_25 (by rw [zr_96]; rfl)
    · refine (R_iconst zf96_20 zw_1 rfl).trans ?_
      refine (R_goto (t := 25) zf96_21 rfl).trans ?_
      exact R_ireturn zf96_25 (by rw [zr_96]; rfl)
-- CannonPost.canHear(LCannonPost$State;II)Z at 0
theorem q91_0_1 (d : Nat) (x0 : Int) (x1 : Int) (h : MH) : Run (d + 1) 91 0 [.inr (.inr (.inl 0)), .inr (.inr (.inl 13)), .inl x0, .inl x1] [] h = (cI (Run d 20 0 [.inr (.inr (.inl 2)), .inl x0] [] h) fun a2_ h1_ => (if a2_ = 0 then some (some (.inl 0), h1_) else (cI (Run d 92 0 [.inl x1] [] h1_) fun a5_ h4_ => (if a5_ = 0 then some (some (.inl 0), h4_) else (if 0 ≤ (wI (29 + x0)) ∧ (wI (29 + x0)) < 37 then (if ¬ (iAnd (iShr (h4_ 93 (wI (29 + x0)).toNat) x1) 1) = 0 then some (some (.inl 0), h4_) else some (some (.inl 1), h4_)) else none))))) := by
  refine (R_aload_n zf91_0 rfl zlt_0 rfl).trans ?_
  refine (R_getR zf91_1 zo_91 zfl_11_19 zk1_0 zft_11_1 zmr_0_1 rfl).trans ?_
  refine (R_iload_n zf91_4 rfl rfl).trans ?_
  refine (R_vcallI zf91_5 zo_91 zvl_11_168 (by rw [zr_20]; rfl) zl_20 (Nat.le_of_ble_eq_true rfl) rfl rfl (Nat.le_of_ble_eq_true rfl) (Nat.le_of_ble_eq_true rfl) (es := [.inr (.inr (.inl 2)), .inl x0]) rfl rfl zk1_2 zo_20).trans ?_
  refine congrArg (cI _) (funext fun a2_ => funext fun h1_ => ?_)
  refine (R_if_eq (t := 38) zf91_8 rfl rfl).trans ?_
  refine ite_congr rfl (fun c3_ => ?_) (fun c3_ => ?_)
  · refine (R_iconst zf91_38 zw_0 rfl).trans ?_
    exact R_ireturn zf91_39 (by rw [zr_91]; rfl)
  · refine (R_iload_n zf91_11 rfl rfl).trans ?_
    refine (R_callI zf91_12 zo_91 zsl_11_276 (by rw [zr_92]; rfl) zl_92 (Nat.le_of_ble_eq_true rfl) rfl rfl (Nat.le_of_ble_eq_true rfl) (Nat.le_of_ble_eq_true rfl) (es := [.inl x1]) rfl rfl).trans ?_
    refine congrArg (cI _) (funext fun a5_ => funext fun h4_ => ?_)
    refine (R_if_eq (t := 38) zf91_15 rfl rfl).trans ?_
    refine ite_congr rfl (fun c6_ => ?_) (fun c6_ => ?_)
    · refine (R_iconst zf91_38 zw_0 rfl).trans ?_
      exact R_ireturn zf91_39 (by rw [zr_91]; rfl)
    · refine (R_aload_n zf91_18 rfl zlt_13 rfl).trans ?_
      refine (R_getR zf91_19 zo_91 zfl_11_162 zk1_13 zft_9_0 zmr_13_0 rfl).trans ?_
      refine (R_bipush zf91_22 zb_29 rfl).trans ?_
      refine (R_iload_n zf91_24 rfl rfl).trans ?_
      refine (R_iadd zf91_25 rfl).trans ?_
      refine (R_iald zf91_26 zk_93 rfl).trans ?_
      refine ite_congr rfl (fun c7_ => ?_) (fun _ => rfl)
      refine (R_iload_n zf91_27 rfl rfl).trans ?_
      refine (R_ishr zf91_28 rfl).trans ?_
      refine (R_iconst zf91_29 zw_1 rfl).trans ?_
      refine (R_iand zf91_30 rfl).trans ?_
      refine (R_if_ne (t := 38) zf91_31 rfl rfl).trans ?_
      refine ite_congr rfl (fun c8_ => ?_) (fun c8_ => ?_)
      · refine (R_iconst zf91_38 zw_0 rfl).trans ?_
        exact R_ireturn zf91_39 (by rw [zr_91]; rfl)
      · refine (R_iconst zf91_34 zw_1 rfl).trans ?_
        refine (R_goto (t := 39) zf91_35 rfl).trans ?_
        exact R_ireturn zf91_39 (by rw [zr_91]; rfl)
-- CannonPost.stepOnce(LCannonPost$State;II)V at 0
theorem q119_0 (d : Nat) (x0 : Int) (x1 : Int) (h : MH) : Run (d + 1) 119 0 [.inr (.inr (.inl 0)), .inr (.inr (.inl 13)), .inl x0, .inl x1, vU, vU] [] h = (cI (Run d 115 0 [.inr (.inr (.inl 7)), .inl x0, .inl x1, .inl 1] [] h) fun a2_ h1_ => (cI (Run d 115 0 [.inr (.inr (.inl 7)), .inl x0, .inl x1, .inl 2] [] h1_) fun a4_ h3_ => (cI (Run d 115 0 [.inr (.inr (.inl 7)), .inl x0, .inl x1, .inl 0] [] h3_) fun a6_ h5_ => (if a6_ = 0 then (cI (Run d 115 0 [.inr (.inr (.inl 7)), .inl x0, .inl x1, .inl 3] [] h5_) fun a9_ h8_ => (cI (Run d 105 0 [.inr (.inr (.inl 0)), .inr (.inr (.inl 13)), .inl a2_, vU, vU, vU] [] h8_) fun a11_ h10_ => (cI (Run d 78 0 [.inr (.inr (.inl 0)), .inr (.inr (.inl 13)), .inl a2_, .inl a9_, .inl a4_, .inl a11_, vU, vU] [] h10_) fun a13_ h12_ => some (none, h12_)))) else (if a6_ = 1 then (cV (Run d 100 0 [.inr (.inr (.inl 13)), .inl (h5_ 2 3), vU] [] h5_) fun h15_ => some (none, h15_)) else (if a6_ = 2 then some (none, (up (up h5_ 93 1 a2_) 93 2 a4_)) else (if 0 ≤ (wI (29 + a2_)) ∧ (wI (29 + a2_)) < 37 then (if 0 ≤ (wI (29 + a2_)) ∧ (wI (29 + a2_)) < 37 then some (none, (up h5_ 93 (wI (29 + a2_)).toNat (iOr (h5_ 93 (wI (29 + a2_)).toNat) (iShl 1 a4_)))) else none) else none))))))) := by
  refine (R_aload_n zf119_0 rfl zlt_0 rfl).trans ?_
  refine (R_getR zf119_1 zo_119 zfl_11_49 zk1_0 zft_11_5 zmr_0_5 rfl).trans ?_
  refine (R_iload_n zf119_4 rfl rfl).trans ?_
  refine (R_iload_n zf119_5 rfl rfl).trans ?_
  refine (R_iconst zf119_6 zw_1 rfl).trans ?_
  refine (R_vcallI zf119_7 zo_119 zvl_11_314 (by rw [zr_115]; rfl) zl_115 (Nat.le_of_ble_eq_true rfl) rfl rfl (Nat.le_of_ble_eq_true rfl) (Nat.le_of_ble_eq_true rfl) (es := [.inr (.inr (.inl 7)), .inl x0, .inl x1, .inl 1]) rfl rfl zk1_7 zo_115).trans ?_
  refine congrArg (cI _) (funext fun a2_ => funext fun h1_ => ?_)
  refine (R_istore (ls' := [.inr (.inr (.inl 0)), .inr (.inr (.inl 13)), .inl x0, .inl x1, .inl a2_, vU]) zf119_10 (Nat.le_of_ble_eq_true rfl) rfl rfl).trans ?_
  refine (R_aload_n zf119_12 rfl zlt_0 rfl).trans ?_
  refine (R_getR zf119_13 zo_119 zfl_11_49 zk1_0 zft_11_5 zmr_0_5 rfl).trans ?_
  refine (R_iload_n zf119_16 rfl rfl).trans ?_
  refine (R_iload_n zf119_17 rfl rfl).trans ?_
  refine (R_iconst zf119_18 zw_2 rfl).trans ?_
  refine (R_vcallI zf119_19 zo_119 zvl_11_314 (by rw [zr_115]; rfl) zl_115 (Nat.le_of_ble_eq_true rfl) rfl rfl (Nat.le_of_ble_eq_true rfl) (Nat.le_of_ble_eq_true rfl) (es := [.inr (.inr (.inl 7)), .inl x0, .inl x1, .inl 2]) rfl rfl zk1_7 zo_115).trans ?_
  refine congrArg (cI _) (funext fun a4_ => funext fun h3_ => ?_)
  refine (R_istore (ls' := [.inr (.inr (.inl 0)), .inr (.inr (.inl 13)), .inl x0, .inl x1, .inl a2_, .inl a4_]) zf119_22 (Nat.le_of_ble_eq_true rfl) rfl rfl).trans ?_
  refine (R_aload_n zf119_24 rfl zlt_0 rfl).trans ?_
  refine (R_getR zf119_25 zo_119 zfl_11_49 zk1_0 zft_11_5 zmr_0_5 rfl).trans ?_
  refine (R_iload_n zf119_28 rfl rfl).trans ?_
  refine (R_iload_n zf119_29 rfl rfl).trans ?_
  refine (R_iconst zf119_30 zw_0 rfl).trans ?_
  refine (R_vcallI zf119_31 zo_119 zvl_11_314 (by rw [zr_115]; rfl) zl_115 (Nat.le_of_ble_eq_true rfl) rfl rfl (Nat.le_of_ble_eq_true rfl) (Nat.le_of_ble_eq_true rfl) (es := [.inr (.inr (.inl 7)), .inl x0, .inl x1, .inl 0]) rfl rfl zk1_7 zo_115).trans ?_
  refine congrArg (cI _) (funext fun a6_ => funext fun h5_ => ?_)
  refine (switch_if (c := a6_ = 0) (fun c7_ => ?_) (fun c7_ => ?_))
  · refine (R_tsw (t := 60) zf119_34 (by omega) (by rw [c7_]; rfl) rfl).trans ?_
    refine (R_aload_n zf119_60 rfl zlt_0 rfl).trans ?_
    refine (R_aload_n zf119_61 rfl zlt_13 rfl).trans ?_
    refine (R_iload zf119_62 rfl rfl).trans ?_
    refine (R_aload_n zf119_64 rfl zlt_0 rfl).trans ?_
    refine (R_getR zf119_65 zo_119 zfl_11_49 zk1_0 zft_11_5 zmr_0_5 rfl).trans ?_
    refine (R_iload_n zf119_68 rfl rfl).trans ?_
    refine (R_iload_n zf119_69 rfl rfl).trans ?_
    refine (R_iconst zf119_70 zw_3 rfl).trans ?_
    refine (R_vcallI zf119_71 zo_119 zvl_11_314 (by rw [zr_115]; rfl) zl_115 (Nat.le_of_ble_eq_true rfl) rfl rfl (Nat.le_of_ble_eq_true rfl) (Nat.le_of_ble_eq_true rfl) (es := [.inr (.inr (.inl 7)), .inl x0, .inl x1, .inl 3]) rfl rfl zk1_7 zo_115).trans ?_
    refine congrArg (cI _) (funext fun a9_ => funext fun h8_ => ?_)
    refine (R_iload zf119_74 rfl rfl).trans ?_
    refine (R_aload_n zf119_76 rfl zlt_0 rfl).trans ?_
    refine (R_aload_n zf119_77 rfl zlt_13 rfl).trans ?_
    refine (R_iload zf119_78 rfl rfl).trans ?_
    refine (R_vcallI zf119_80 zo_119 zvl_11_300 (by rw [zr_105]; rfl) zl_105 (Nat.le_of_ble_eq_true rfl) rfl rfl (Nat.le_of_ble_eq_true rfl) (Nat.le_of_ble_eq_true rfl) (es := [.inr (.inr (.inl 0)), .inr (.inr (.inl 13)), .inl a2_, vU, vU, vU]) rfl rfl zk1_0 zo_105).trans ?_
    refine congrArg (cI _) (funext fun a11_ => funext fun h10_ => ?_)
    refine (R_vcallI zf119_83 zo_119 zvl_11_239 (by rw [zr_78]; rfl) zl_78 (Nat.le_of_ble_eq_true rfl) rfl rfl (Nat.le_of_ble_eq_true rfl) (Nat.le_of_ble_eq_true rfl) (es := [.inr (.inr (.inl 0)), .inr (.inr (.inl 13)), .inl a2_, .inl a9_, .inl a4_, .inl a11_, vU, vU]) rfl rfl zk1_0 zo_78).trans ?_
    refine congrArg (cI _) (funext fun a13_ => funext fun h12_ => ?_)
    refine (R_pop zf119_86 rfl rfl).trans ?_
    refine (R_goto (t := 140) zf119_87 rfl).trans ?_
    exact R_return zf119_140 zr_119
  refine (switch_if (c := a6_ = 1) (fun c14_ => ?_) (fun c14_ => ?_))
  · refine (R_tsw (t := 90) zf119_34 (by omega) (by rw [c14_]; rfl) rfl).trans ?_
    refine (R_aload_n zf119_90 rfl zlt_13 rfl).trans ?_
    refine (R_aload_n zf119_91 rfl zlt_0 rfl).trans ?_
    refine (R_getR zf119_92 zo_119 zfl_11_19 zk1_0 zft_11_1 zmr_0_1 rfl).trans ?_
    refine (R_getI zf119_95 zo_119 zfl_11_119 zk1_2 zft_5_3 rfl).trans ?_
    refine (R_vcallV zf119_98 zo_119 zvl_11_252 zr_100 zl_100 (Nat.le_of_ble_eq_true rfl) rfl rfl (Nat.le_of_ble_eq_true rfl) (Nat.le_of_ble_eq_true rfl) (es := [.inr (.inr (.inl 13)), .inl (h5_ 2 3), vU]) rfl rfl zk1_13 zo_100).trans ?_
    refine congrArg (cV _) (funext fun h15_ => ?_)
    refine (R_goto (t := 140) zf119_101 rfl).trans ?_
    exact R_return zf119_140 zr_119
  refine (switch_if (c := a6_ = 2) (fun c16_ => ?_) (fun c16_ => ?_))
  · refine (R_tsw (t := 104) zf119_34 (by omega) (by rw [c16_]; rfl) rfl).trans ?_
    refine (R_aload_n zf119_104 rfl zlt_13 rfl).trans ?_
    refine (R_getR zf119_105 zo_119 zfl_11_162 zk1_13 zft_9_0 zmr_13_0 rfl).trans ?_
    refine (R_iconst zf119_108 zw_1 rfl).trans ?_
    refine (R_iload zf119_109 rfl rfl).trans ?_
    refine (R_iastc zf119_111 zk_93 (by decide) rfl rfl).trans ?_
    refine (R_aload_n zf119_112 rfl zlt_13 rfl).trans ?_
    refine (R_getR zf119_113 zo_119 zfl_11_162 zk1_13 zft_9_0 zmr_13_0 rfl).trans ?_
    refine (R_iconst zf119_116 zw_2 rfl).trans ?_
    refine (R_iload zf119_117 rfl rfl).trans ?_
    refine (R_iastc zf119_119 zk_93 (by decide) rfl rfl).trans ?_
    refine (R_goto (t := 140) zf119_120 rfl).trans ?_
    exact R_return zf119_140 zr_119
  refine (R_tswD (t := 123) zf119_34 (by omega) rfl).trans ?_
  refine (R_aload_n zf119_123 rfl zlt_13 rfl).trans ?_
  refine (R_getR zf119_124 zo_119 zfl_11_162 zk1_13 zft_9_0 zmr_13_0 rfl).trans ?_
  refine (R_bipush zf119_127 zb_29 rfl).trans ?_
  refine (R_iload zf119_129 rfl rfl).trans ?_
  refine (R_iadd zf119_131 rfl).trans ?_
  refine (R_dup2 zf119_132 rfl rfl rfl).trans ?_
  refine (R_iald zf119_133 zk_93 rfl).trans ?_
  refine ite_congr rfl (fun c17_ => ?_) (fun _ => rfl)
  refine (R_iconst zf119_134 zw_1 rfl).trans ?_
  refine (R_iload zf119_135 rfl rfl).trans ?_
  refine (R_ishl zf119_137 rfl).trans ?_
  refine (R_ior zf119_138 rfl).trans ?_
  refine (R_iast zf119_139 zk_93 rfl).trans ?_
  refine ite_congr rfl (fun c18_ => ?_) (fun _ => rfl)
  exact R_return zf119_140 zr_119
-- CannonPost$History.keep(LCannonPost$State;)V at 0
theorem q77_0_1 (d : Nat) (h : MH) : Run d 77 0 [.inr (.inr (.inl 11)), .inr (.inr (.inl 13))] [] h = (if 0 ≤ (h 11 2) ∧ (h 11 2) < 40 then some (none, (up (up (cpy h (h 93) (51 + (h 11 2).toNat) 0 0 37) 11 2 ((wI (((cpy h (h 93) (51 + (h 11 2).toNat) 0 0 37) 11 2) + 1)).tmod 40)) 11 0 (mn 40 (wI (((up (cpy h (h 93) (51 + (h 11 2).toNat) 0 0 37) 11 2 ((wI (((cpy h (h 93) (51 + (h 11 2).toNat) 0 0 37) 11 2) + 1)).tmod 40)) 11 0) + 1))))) else none) := by
  refine (R_aload_n zf77_0 rfl zlt_13 rfl).trans ?_
  refine (R_getR zf77_1 zo_77 zfl_2_16 zk1_13 zft_9_0 zmr_13_0 rfl).trans ?_
  refine (R_iconst zf77_4 zw_0 rfl).trans ?_
  refine (R_aload_n zf77_5 rfl zlt_11 rfl).trans ?_
  refine (R_getR zf77_6 zo_77 zfl_2_13 zk1_11 zft_2_1 zmr_11_1 rfl).trans ?_
  refine (R_aload_n zf77_9 rfl zlt_11 rfl).trans ?_
  refine (R_getI zf77_10 zo_77 zfl_2_20 zk1_11 zft_2_2 rfl).trans ?_
  refine (R_aald zf77_13 zk_50 zmr_50_0 rfl).trans ?_
  refine ite_congr rfl (fun c1_ => ?_) (fun _ => rfl)
  refine (R_iconst zf77_14 zw_0 rfl).trans ?_
  refine (R_bipush zf77_15 zb_37 rfl).trans ?_
  refine ((R_acpy zf77_17 zo_77 zsl_2_24 zal_2_24 zk_93 (zgrid_51 _ (by omega)) (Nat.le_of_ble_eq_true rfl) rfl).trans (if_pos (by decide))).trans ?_
  refine (R_aload_n zf77_20 rfl zlt_11 rfl).trans ?_
  refine (R_aload_n zf77_21 rfl zlt_11 rfl).trans ?_
  refine (R_getI zf77_22 zo_77 zfl_2_20 zk1_11 zft_2_2 rfl).trans ?_
  refine (R_iconst zf77_25 zw_1 rfl).trans ?_
  refine (R_iadd zf77_26 rfl).trans ?_
  refine (R_bipush zf77_27 zb_40 rfl).trans ?_
  refine (R_irem zf77_29 (by decide) rfl).trans ?_
  refine (R_putI zf77_30 zo_77 zfl_2_20 zk1_11 zft_2_2 rfl).trans ?_
  refine (R_aload_n zf77_33 rfl zlt_11 rfl).trans ?_
  refine (R_bipush zf77_34 zb_40 rfl).trans ?_
  refine (R_aload_n zf77_36 rfl zlt_11 rfl).trans ?_
  refine (R_getI zf77_37 zo_77 zfl_2_30 zk1_11 zft_2_0 rfl).trans ?_
  refine (R_iconst zf77_40 zw_1 rfl).trans ?_
  refine (R_iadd zf77_41 rfl).trans ?_
  refine (R_mmin zf77_42 zo_77 zsl_2_33 zml_2_33 zna_2_33 (Nat.le_of_ble_eq_true rfl) rfl).trans ?_
  refine (R_putI zf77_45 zo_77 zfl_2_30 zk1_11 zft_2_0 rfl).trans ?_
  exact R_return zf77_48 zr_77
