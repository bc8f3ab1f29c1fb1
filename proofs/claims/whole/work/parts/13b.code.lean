/-! the methods as equations of Run: CannonPost.beginLeague=45, CannonPost.canFire=71, CannonPost.canHear=91, CannonPost.canSay=75, CannonPost.cuts=138, CannonPost.decades=101, CannonPost.fire=78, CannonPost.follow=117, CannonPost.following=162, CannonPost.free=173, CannonPost.gained=166, CannonPost.gusts=142, CannonPost.hays=169, CannonPost.home=174, CannonPost.hours=98, CannonPost.hoursFit=99, CannonPost.isGamePowder=165, CannonPost.isNews=92, CannonPost.isPair=145, CannonPost.isPassage=124, CannonPost.isPowder=73, CannonPost.isShot=122, CannonPost.isWay=74, CannonPost.landsWithMore=143, CannonPost.partsRight=136, CannonPost.rests=167, CannonPost.surest=137, CannonPost.text=44, CannonPostModel.ask=280, CannonPostModel.back=305, CannonPostModel.best=297, CannonPostModel.blows=243, CannonPostModel.bytesIn=179, CannonPostModel.canBlow=242, CannonPostModel.canHear=238, CannonPostModel.canShoot=227, CannonPostModel.carrier=221, CannonPostModel.count=306, CannonPostModel.cuts=284, CannonPostModel.decades=248, CannonPostModel.face=289, CannonPostModel.fault=182, CannonPostModel.folk=217, CannonPostModel.following=293, CannonPostModel.free=299, CannonPostModel.game=285, CannonPostModel.gusts=302, CannonPostModel.hays=295, CannonPostModel.home=300, CannonPostModel.hours=245, CannonPostModel.image=304, CannonPostModel.isCarrier=222, CannonPostModel.isFort=220, CannonPostModel.isIn=183, CannonPostModel.isPlan=254, CannonPostModel.known=301, CannonPostModel.mayPass=246, CannonPostModel.meant=290, CannonPostModel.net=281, CannonPostModel.passing=303, CannonPostModel.put=180, CannonPostModel.readLeague=184, CannonPostModel.remember=229, CannonPostModel.rests=288, CannonPostModel.seen=277, CannonPostModel.shoots=230, CannonPostModel.stock=294, CannonPostModel.text=216, CannonPostModel.undo=251, CannonPostModel.winds=278, Flight.comesTo=79, Flight.leastPowder=125, Guesses.addFace=158, Guesses.addSight=148, Guesses.hasRoomForFace=157, Guesses.hasRoomForSight=147, Guesses.partsFor=160, Guesses.tellingShot=154, Guesses.weighWinds=150, History.forget=53, History.keep=77, History.takeBack=107, Integer.bitCount=76, LawReader.readTape=22, League.breath=62, League.fortNear=87, League.hasCarrier=72, League.hasFort=20, League.height=64, League.highestFort=171, League.isTold=61, League.nearestFort=172, League.nerve=83, League.place=18, League.weight=82, LeagueReader.readTape=5, Paths.bestRelay=132, Paths.link=139, Paths.netFrom=140, Paths.trace=128, Planbook.has=114, Planbook.part=115, Planbook.readTape=38, State.blows=96, State.copyFrom=111, State.fortsKnowing=131, State.logLength=69, State.logged=109, State.sumOf=68, Tape.bytesIn=1, Tape.put=2 -/
-- CannonPostModel.seen(IIIII)I at 0
theorem q277_0 (d : Nat) (x0 : Int) (x1 : Int) (x2 : Int) (x3 : Int) (x4 : Int) (h : MH) : Run (d + 1) 277 0 [.inr (.inr (.inl 97)), .inl x0, .inl x1, .inl x2, .inl x3, .inl x4, vU] [] h = (cI (Run d 262 0 [.inr (.inr (.inl 97)), .inl x0, .inl x1, .inl x2, .inl x3] [] (up h 97 0 0)) fun a2_ h1_ => (if a2_ = 0 then some (some (.inl (-1)), h1_) else (cI (Run d 183 0 [.inr (.inl x4), vU, .inr (.inl (-60)), vU, .inr (.inl 100), vU] [] h1_) fun a5_ h4_ => (if a5_ = 0 then some (some (.inl (-1)), h4_) else (if ¬ (h4_ 97 46) = 10 then (if 0 ≤ (wI (5 * (h4_ 97 46))) ∧ (wI (5 * (h4_ 97 46))) < 50 then (if 0 ≤ (wI ((wI (5 * (h4_ 97 46))) + 1)) ∧ (wI ((wI (5 * (h4_ 97 46))) + 1)) < 50 then (if 0 ≤ (wI ((wI (5 * (h4_ 97 46))) + 2)) ∧ (wI ((wI (5 * (h4_ 97 46))) + 2)) < 50 then (if 0 ≤ (wI ((wI (5 * (h4_ 97 46))) + 3)) ∧ (wI ((wI (5 * (h4_ 97 46))) + 3)) < 50 then (if 0 ≤ (wI ((wI (5 * (h4_ 97 46))) + 4)) ∧ (wI ((wI (5 * (h4_ 97 46))) + 4)) < 50 then some (some (.inl ((up (up (up (up (up (up h4_ 115 (wI (5 * (h4_ 97 46))).toNat x0) 115 (wI ((wI (5 * (h4_ 97 46))) + 1)).toNat x1) 115 (wI ((wI (5 * (h4_ 97 46))) + 2)).toNat x2) 115 (wI ((wI (5 * (h4_ 97 46))) + 3)).toNat x3) 115 (wI ((wI (5 * (h4_ 97 46))) + 4)).toNat x4) 97 46 (wI (((up (up (up (up (up h4_ 115 (wI (5 * (h4_ 97 46))).toNat x0) 115 (wI ((wI (5 * (h4_ 97 46))) + 1)).toNat x1) 115 (wI ((wI (5 * (h4_ 97 46))) + 2)).toNat x2) 115 (wI ((wI (5 * (h4_ 97 46))) + 3)).toNat x3) 115 (wI ((wI (5 * (h4_ 97 46))) + 4)).toNat x4) 97 46) + 1))) 97 46)), (up (up (up (up (up (up h4_ 115 (wI (5 * (h4_ 97 46))).toNat x0) 115 (wI ((wI (5 * (h4_ 97 46))) + 1)).toNat x1) 115 (wI ((wI (5 * (h4_ 97 46))) + 2)).toNat x2) 115 (wI ((wI (5 * (h4_ 97 46))) + 3)).toNat x3) 115 (wI ((wI (5 * (h4_ 97 46))) + 4)).toNat x4) 97 46 (wI (((up (up (up (up (up h4_ 115 (wI (5 * (h4_ 97 46))).toNat x0) 115 (wI ((wI (5 * (h4_ 97 46))) + 1)).toNat x1) 115 (wI ((wI (5 * (h4_ 97 46))) + 2)).toNat x2) 115 (wI ((wI (5 * (h4_ 97 46))) + 3)).toNat x3) 115 (wI ((wI (5 * (h4_ 97 46))) + 4)).toNat x4) 97 46) + 1)))) else none) else none) else none) else none) else none) else some (some (.inl (-1)), h4_)))))) := by
  refine (R_aload_n zf277_0 rfl zlt_97 rfl).trans ?_
  refine (R_iconst zf277_1 zw_0 rfl).trans ?_
  refine (R_putI zf277_2 zo_277 zfl_12_96 zk1_97 zft_12_0 rfl).trans ?_
  refine (R_aload_n zf277_5 rfl zlt_97 rfl).trans ?_
  refine (R_iload_n zf277_6 rfl rfl).trans ?_
  refine (R_iload_n zf277_7 rfl rfl).trans ?_
  refine (R_iload_n zf277_8 rfl rfl).trans ?_
  refine (R_iload zf277_9 rfl rfl).trans ?_
  refine (R_vcallI zf277_11 zo_277 zvl_12_439 (by rw [zr_262]; rfl) zl_262 (Nat.le_of_ble_eq_true rfl) rfl rfl (Nat.le_of_ble_eq_true rfl) (Nat.le_of_ble_eq_true rfl) (es := [.inr (.inr (.inl 97)), .inl x0, .inl x1, .inl x2, .inl x3]) rfl rfl zk1_97 zo_262).trans ?_
  refine congrArg (cI _) (funext fun a2_ => funext fun h1_ => ?_)
  refine (R_if_eq (t := 41) zf277_14 rfl rfl).trans ?_
  refine ite_congr rfl (fun c3_ => ?_) (fun c3_ => ?_)
  · refine (R_iconst zf277_41 zw_m1 rfl).trans ?_
    exact R_ireturn_i zf277_42 zr_277
  · refine (R_iload zf277_17 rfl rfl).trans ?_
    refine (R_i2l zf277_19 rfl).trans ?_
    refine (R_ldc2_w zf277_20 zo_277 zll_12_487 rfl).trans ?_
    refine (R_ldc2_w zf277_23 zo_277 zll_12_489 rfl).trans ?_
    refine (R_callI zf277_26 zo_277 zsl_12_217 (by rw [zr_183]; rfl) zl_183 (Nat.le_of_ble_eq_true rfl) rfl rfl (Nat.le_of_ble_eq_true rfl) (Nat.le_of_ble_eq_true rfl) (es := [.inr (.inl x4), vU, .inr (.inl (-60)), vU, .inr (.inl 100), vU]) rfl rfl).trans ?_
    refine congrArg (cI _) (funext fun a5_ => funext fun h4_ => ?_)
    refine (R_if_eq (t := 41) zf277_29 rfl rfl).trans ?_
    refine ite_congr rfl (fun c6_ => ?_) (fun c6_ => ?_)
    · refine (R_iconst zf277_41 zw_m1 rfl).trans ?_
      exact R_ireturn_i zf277_42 zr_277
    · refine (R_aload_n zf277_32 rfl zlt_97 rfl).trans ?_
      refine (R_getI zf277_33 zo_277 zfl_12_303 zk1_97 zft_12_46 rfl).trans ?_
      refine (R_bipush zf277_36 zb_10 rfl).trans ?_
      refine (R_icmp_ne (t := 43) zf277_38 rfl rfl).trans ?_
      refine ite_congr rfl (fun c7_ => ?_) (fun c7_ => ?_)
      · refine (R_iconst zf277_43 zw_5 rfl).trans ?_
        refine (R_aload_n zf277_44 rfl zlt_97 rfl).trans ?_
        refine (R_getI zf277_45 zo_277 zfl_12_303 zk1_97 zft_12_46 rfl).trans ?_
        refine (R_imul zf277_48 rfl).trans ?_
        refine (R_istore (ls' := [.inr (.inr (.inl 97)), .inl x0, .inl x1, .inl x2, .inl x3, .inl x4, .inl (wI (5 * (h4_ 97 46)))]) zf277_49 (Nat.le_of_ble_eq_true rfl) rfl rfl).trans ?_
        refine (R_aload_n zf277_51 rfl zlt_97 rfl).trans ?_
        refine (R_getR zf277_52 zo_277 zfl_12_80 zk1_97 zft_12_44 zmr_97_44 rfl).trans ?_
        refine (R_iload zf277_55 rfl rfl).trans ?_
        refine (R_iload_n zf277_57 rfl rfl).trans ?_
        refine (R_iast zf277_58 zk_115 rfl).trans ?_
        refine ite_congr rfl (fun c8_ => ?_) (fun _ => rfl)
        refine (R_aload_n zf277_59 rfl zlt_97 rfl).trans ?_
        refine (R_getR zf277_60 zo_277 zfl_12_80 zk1_97 zft_12_44 zmr_97_44 rfl).trans ?_
        refine (R_iload zf277_63 rfl rfl).trans ?_
        refine (R_iconst zf277_65 zw_1 rfl).trans ?_
        refine (R_iadd zf277_66 rfl).trans ?_
        refine (R_iload_n zf277_67 rfl rfl).trans ?_
        refine (R_iast zf277_68 zk_115 rfl).trans ?_
        refine ite_congr rfl (fun c9_ => ?_) (fun _ => rfl)
        refine (R_aload_n zf277_69 rfl zlt_97 rfl).trans ?_
        refine (R_getR zf277_70 zo_277 zfl_12_80 zk1_97 zft_12_44 zmr_97_44 rfl).trans ?_
        refine (R_iload zf277_73 rfl rfl).trans ?_
        refine (R_iconst zf277_75 zw_2 rfl).trans ?_
        refine (R_iadd zf277_76 rfl).trans ?_
        refine (R_iload_n zf277_77 rfl rfl).trans ?_
        refine (R_iast zf277_78 zk_115 rfl).trans ?_
        refine ite_congr rfl (fun c10_ => ?_) (fun _ => rfl)
        refine (R_aload_n zf277_79 rfl zlt_97 rfl).trans ?_
        refine (R_getR zf277_80 zo_277 zfl_12_80 zk1_97 zft_12_44 zmr_97_44 rfl).trans ?_
        refine (R_iload zf277_83 rfl rfl).trans ?_
        refine (R_iconst zf277_85 zw_3 rfl).trans ?_
        refine (R_iadd zf277_86 rfl).trans ?_
        refine (R_iload zf277_87 rfl rfl).trans ?_
        refine (R_iast zf277_89 zk_115 rfl).trans ?_
        refine ite_congr rfl (fun c11_ => ?_) (fun _ => rfl)
        refine (R_aload_n zf277_90 rfl zlt_97 rfl).trans ?_
        refine (R_getR zf277_91 zo_277 zfl_12_80 zk1_97 zft_12_44 zmr_97_44 rfl).trans ?_
        refine (R_iload zf277_94 rfl rfl).trans ?_
        refine (R_iconst zf277_96 zw_4 rfl).trans ?_
        refine (R_iadd zf277_97 rfl).trans ?_
        refine (R_iload zf277_98 rfl rfl).trans ?_
        refine (R_iast zf277_100 zk_115 rfl).trans ?_
        refine ite_congr rfl (fun c12_ => ?_) (fun _ => rfl)
        refine (R_aload_n zf277_101 rfl zlt_97 rfl).trans ?_
        refine (R_dup zf277_102 rfl rfl).trans ?_
        refine (R_getI zf277_103 zo_277 zfl_12_303 zk1_97 zft_12_46 rfl).trans ?_
        refine (R_iconst zf277_106 zw_1 rfl).trans ?_
        refine (R_iadd zf277_107 rfl).trans ?_
        refine (R_putI zf277_108 zo_277 zfl_12_303 zk1_97 zft_12_46 rfl).trans ?_
        refine (R_aload_n zf277_111 rfl zlt_97 rfl).trans ?_
        refine (R_getI zf277_112 zo_277 zfl_12_303 zk1_97 zft_12_46 rfl).trans ?_
        exact R_ireturn_i zf277_115 zr_277
      · refine (R_iconst zf277_41 zw_m1 rfl).trans ?_
        exact R_ireturn_i zf277_42 zr_277
-- CannonPostModel.winds(I)I at 0
theorem q278_0 (d : Nat) (x0 : Int) (h : MH) : Run (d + 1) 278 0 [.inr (.inr (.inl 97)), .inl x0, vU, vU] [] h = (if ((up h 97 0 0) 97 26) = 0 then some (some (.inl (-1)), (up h 97 0 0)) else (if (-1) ≤ x0 then Run (d + 1) 278 23 [.inr (.inr (.inl 97)), .inl x0, .inl 0, .inl 0] [] (up h 97 0 0) else some (some (.inl (-1)), (up h 97 0 0)))) := by
  refine (R_aload_n zf278_0 rfl zlt_97 rfl).trans ?_
  refine (R_iconst zf278_1 zw_0 rfl).trans ?_
  refine (R_putI zf278_2 zo_278 zfl_12_96 zk1_97 zft_12_0 rfl).trans ?_
  refine (R_aload_n zf278_5 rfl zlt_97 rfl).trans ?_
  refine (R_getI zf278_6 zo_278 zfl_12_294 zk1_97 zft_12_26 rfl).trans ?_
  refine (R_if_eq (t := 17) zf278_9 rfl rfl).trans ?_
  refine ite_congr rfl (fun c1_ => ?_) (fun c1_ => ?_)
  · refine (R_iconst zf278_17 zw_m1 rfl).trans ?_
    exact R_ireturn_i zf278_18 zr_278
  · refine (R_iload_n zf278_12 rfl rfl).trans ?_
    refine (R_iconst zf278_13 zw_m1 rfl).trans ?_
    refine (R_icmp_ge (t := 19) zf278_14 rfl rfl).trans ?_
    refine ite_congr rfl (fun c2_ => ?_) (fun c2_ => ?_)
    · refine (R_iconst zf278_19 zw_0 rfl).trans ?_
      refine (R_istore_n (ls' := [.inr (.inr (.inl 97)), .inl x0, .inl 0, vU]) zf278_20 (Nat.le_of_ble_eq_true rfl) rfl rfl).trans ?_
      refine (R_iconst zf278_21 zw_0 rfl).trans ?_
      refine (R_istore_n (ls' := [.inr (.inr (.inl 97)), .inl x0, .inl 0, .inl 0]) zf278_22 (Nat.le_of_ble_eq_true rfl) rfl rfl).trans ?_
      rfl
    · refine (R_iconst zf278_17 zw_m1 rfl).trans ?_
      exact R_ireturn_i zf278_18 zr_278
-- CannonPostModel.ask(II)I at 0
theorem q280_0 (d : Nat) (x0 : Int) (x1 : Int) (h : MH) : Run (d + 1) 280 0 [.inr (.inr (.inl 97)), .inl x0, .inl x1, vU, vU, vU, vU, vU, vU, vU, vU] [] h = (cI (Run d 222 0 [.inr (.inr (.inl 97)), .inl x0] [] (up h 97 0 0)) fun a2_ h1_ => (if a2_ = 0 then some (some (.inl (-1)), h1_) else (cI (Run d 220 0 [.inr (.inr (.inl 97)), .inl x1] [] h1_) fun a5_ h4_ => (if ¬ a5_ = 0 then Run (d + 1) 280 28 [.inr (.inr (.inl 97)), .inl x0, .inl x1, .inl 0, .inl 0, vU, vU, vU, vU, vU, vU] [] h4_ else some (some (.inl (-1)), h4_))))) := by
  refine (R_aload_n zf280_0 rfl zlt_97 rfl).trans ?_
  refine (R_iconst zf280_1 zw_0 rfl).trans ?_
  refine (R_putI zf280_2 zo_280 zfl_12_96 zk1_97 zft_12_0 rfl).trans ?_
  refine (R_aload_n zf280_5 rfl zlt_97 rfl).trans ?_
  refine (R_iload_n zf280_6 rfl rfl).trans ?_
  refine (R_vcallI zf280_7 zo_280 zvl_12_339 (by rw [zr_222]; rfl) zl_222 (Nat.le_of_ble_eq_true rfl) rfl rfl (Nat.le_of_ble_eq_true rfl) (Nat.le_of_ble_eq_true rfl) (es := [.inr (.inr (.inl 97)), .inl x0]) rfl rfl zk1_97 zo_222).trans ?_
  refine congrArg (cI _) (funext fun a2_ => funext fun h1_ => ?_)
  refine (R_if_eq (t := 21) zf280_10 rfl rfl).trans ?_
  refine ite_congr rfl (fun c3_ => ?_) (fun c3_ => ?_)
  · refine (R_iconst zf280_21 zw_m1 rfl).trans ?_
    exact R_ireturn_i zf280_22 zr_280
  · refine (R_aload_n zf280_13 rfl zlt_97 rfl).trans ?_
    refine (R_iload_n zf280_14 rfl rfl).trans ?_
    refine (R_vcallI zf280_15 zo_280 zvl_12_362 (by rw [zr_220]; rfl) zl_220 (Nat.le_of_ble_eq_true rfl) rfl rfl (Nat.le_of_ble_eq_true rfl) (Nat.le_of_ble_eq_true rfl) (es := [.inr (.inr (.inl 97)), .inl x1]) rfl rfl zk1_97 zo_220).trans ?_
    refine congrArg (cI _) (funext fun a5_ => funext fun h4_ => ?_)
    refine (R_if_ne (t := 23) zf280_18 rfl rfl).trans ?_
    refine ite_congr rfl (fun c6_ => ?_) (fun c6_ => ?_)
    · refine (R_iconst zf280_23 zw_0 rfl).trans ?_
      refine (R_istore_n (ls' := [.inr (.inr (.inl 97)), .inl x0, .inl x1, .inl 0, vU, vU, vU, vU, vU, vU, vU]) zf280_24 (Nat.le_of_ble_eq_true rfl) rfl rfl).trans ?_
      refine (R_iconst zf280_25 zw_0 rfl).trans ?_
      refine (R_istore (ls' := [.inr (.inr (.inl 97)), .inl x0, .inl x1, .inl 0, .inl 0, vU, vU, vU, vU, vU, vU]) zf280_26 (Nat.le_of_ble_eq_true rfl) rfl rfl).trans ?_
      rfl
    · refine (R_iconst zf280_21 zw_m1 rfl).trans ?_
      exact R_ireturn_i zf280_22 zr_280
-- CannonPostModel.net(I)I at 0
theorem q281_0 (d : Nat) (x0 : Int) (h : MH) : Run (d + 1) 281 0 [.inr (.inr (.inl 97)), .inl x0] [] h = (cI (Run d 220 0 [.inr (.inr (.inl 97)), .inl x0] [] (up h 97 0 0)) fun a2_ h1_ => (if ¬ a2_ = 0 then (cV (Run d 273 0 [.inr (.inr (.inl 97)), vU] [] h1_) fun h4_ => (cI (Run d 282 0 [.inr (.inr (.inl 97)), .inl x0, .inl (-1), vU, vU, vU, vU] [] h4_) fun a6_ h5_ => some (some (.inl a6_), h5_))) else some (some (.inl (-1)), h1_))) := by
  refine (R_aload_n zf281_0 rfl zlt_97 rfl).trans ?_
  refine (R_iconst zf281_1 zw_0 rfl).trans ?_
  refine (R_putI zf281_2 zo_281 zfl_12_96 zk1_97 zft_12_0 rfl).trans ?_
  refine (R_aload_n zf281_5 rfl zlt_97 rfl).trans ?_
  refine (R_iload_n zf281_6 rfl rfl).trans ?_
  refine (R_vcallI zf281_7 zo_281 zvl_12_362 (by rw [zr_220]; rfl) zl_220 (Nat.le_of_ble_eq_true rfl) rfl rfl (Nat.le_of_ble_eq_true rfl) (Nat.le_of_ble_eq_true rfl) (es := [.inr (.inr (.inl 97)), .inl x0]) rfl rfl zk1_97 zo_220).trans ?_
  refine congrArg (cI _) (funext fun a2_ => funext fun h1_ => ?_)
  refine (R_if_ne (t := 15) zf281_10 rfl rfl).trans ?_
  refine ite_congr rfl (fun c3_ => ?_) (fun c3_ => ?_)
  · refine (R_aload_n zf281_15 rfl zlt_97 rfl).trans ?_
    refine (R_vcallV zf281_16 zo_281 zvl_12_481 zr_273 zl_273 (Nat.le_of_ble_eq_true rfl) rfl rfl (Nat.le_of_ble_eq_true rfl) (Nat.le_of_ble_eq_true rfl) (es := [.inr (.inr (.inl 97)), vU]) rfl rfl zk1_97 zo_273).trans ?_
    refine congrArg (cV _) (funext fun h4_ => ?_)
    refine (R_aload_n zf281_19 rfl zlt_97 rfl).trans ?_
    refine (R_iload_n zf281_20 rfl rfl).trans ?_
    refine (R_iconst zf281_21 zw_m1 rfl).trans ?_
    refine (R_vcallI zf281_22 zo_281 zvl_12_497 (by rw [zr_282]; rfl) zl_282 (Nat.le_of_ble_eq_true rfl) rfl rfl (Nat.le_of_ble_eq_true rfl) (Nat.le_of_ble_eq_true rfl) (es := [.inr (.inr (.inl 97)), .inl x0, .inl (-1), vU, vU, vU, vU]) rfl rfl zk1_97 zo_282).trans ?_
    refine congrArg (cI _) (funext fun a6_ => funext fun h5_ => ?_)
    exact R_ireturn_i zf281_25 zr_281
  · refine (R_iconst zf281_13 zw_m1 rfl).trans ?_
    exact R_ireturn_i zf281_14 zr_281
-- CannonPostModel.cuts()I at 0
theorem q284_0 (d : Nat) (h : MH) : Run (d + 1) 284 0 [.inr (.inr (.inl 97)), vU, vU, vU] [] h = (if ¬ ((up h 97 0 0) 97 26) = 0 then (cV (Run d 273 0 [.inr (.inr (.inl 97)), vU] [] (up h 97 0 0)) fun h2_ => (cI (Run d 282 0 [.inr (.inr (.inl 97)), .inl 0, .inl (-1), vU, vU, vU, vU] [] h2_) fun a4_ h3_ => Run (d + 1) 284 29 [.inr (.inr (.inl 97)), .inl a4_, .inl 0, .inl 1] [] h3_)) else some (some (.inl (-1)), (up h 97 0 0))) := by
  refine (R_aload_n zf284_0 rfl zlt_97 rfl).trans ?_
  refine (R_iconst zf284_1 zw_0 rfl).trans ?_
  refine (R_putI zf284_2 zo_284 zfl_12_96 zk1_97 zft_12_0 rfl).trans ?_
  refine (R_aload_n zf284_5 rfl zlt_97 rfl).trans ?_
  refine (R_getI zf284_6 zo_284 zfl_12_294 zk1_97 zft_12_26 rfl).trans ?_
  refine (R_if_ne (t := 14) zf284_9 rfl rfl).trans ?_
  refine ite_congr rfl (fun c1_ => ?_) (fun c1_ => ?_)
  · refine (R_aload_n zf284_14 rfl zlt_97 rfl).trans ?_
    refine (R_vcallV zf284_15 zo_284 zvl_12_481 zr_273 zl_273 (Nat.le_of_ble_eq_true rfl) rfl rfl (Nat.le_of_ble_eq_true rfl) (Nat.le_of_ble_eq_true rfl) (es := [.inr (.inr (.inl 97)), vU]) rfl rfl zk1_97 zo_273).trans ?_
    refine congrArg (cV _) (funext fun h2_ => ?_)
    refine (R_aload_n zf284_18 rfl zlt_97 rfl).trans ?_
    refine (R_iconst zf284_19 zw_0 rfl).trans ?_
    refine (R_iconst zf284_20 zw_m1 rfl).trans ?_
    refine (R_vcallI zf284_21 zo_284 zvl_12_497 (by rw [zr_282]; rfl) zl_282 (Nat.le_of_ble_eq_true rfl) rfl rfl (Nat.le_of_ble_eq_true rfl) (Nat.le_of_ble_eq_true rfl) (es := [.inr (.inr (.inl 97)), .inl 0, .inl (-1), vU, vU, vU, vU]) rfl rfl zk1_97 zo_282).trans ?_
    refine congrArg (cI _) (funext fun a4_ => funext fun h3_ => ?_)
    refine (R_istore_n (ls' := [.inr (.inr (.inl 97)), .inl a4_, vU, vU]) zf284_24 (Nat.le_of_ble_eq_true rfl) rfl rfl).trans ?_
    refine (R_iconst zf284_25 zw_0 rfl).trans ?_
    refine (R_istore_n (ls' := [.inr (.inr (.inl 97)), .inl a4_, .inl 0, vU]) zf284_26 (Nat.le_of_ble_eq_true rfl) rfl rfl).trans ?_
    refine (R_iconst zf284_27 zw_1 rfl).trans ?_
    refine (R_istore_n (ls' := [.inr (.inr (.inl 97)), .inl a4_, .inl 0, .inl 1]) zf284_28 (Nat.le_of_ble_eq_true rfl) rfl rfl).trans ?_
    rfl
  · refine (R_iconst zf284_12 zw_m1 rfl).trans ?_
    exact R_ireturn_i zf284_13 zr_284
-- CannonPostModel.game(IIIIII)I at 0
theorem q285_0 (d : Nat) (x0 : Int) (x1 : Int) (x2 : Int) (x3 : Int) (x4 : Int) (x5 : Int) (h : MH) : Run (d + 1) 285 0 [.inr (.inr (.inl 97)), .inl x0, .inl x1, .inl x2, .inl x3, .inl x4, .inl x5] [] h = (cI (Run d 286 0 [.inr (.inr (.inl 97)), .inl x0, .inl x1, .inl x2] [] (up h 97 0 0)) fun a2_ h1_ => (if a2_ = 0 then some (some (.inl (-1000000)), h1_) else (cI (Run d 183 0 [.inr (.inl x3), vU, .inr (.inl 0), vU, .inr (.inl 1), vU] [] h1_) fun a5_ h4_ => (if a5_ = 0 then some (some (.inl (-1000000)), h4_) else (cI (Run d 183 0 [.inr (.inl x4), vU, .inr (.inl 0), vU, .inr (.inl 1), vU] [] h4_) fun a8_ h7_ => (if a8_ = 0 then some (some (.inl (-1000000)), h7_) else (cI (Run d 183 0 [.inr (.inl x5), vU, .inr (.inl 0), vU, .inr (.inl 1), vU] [] h7_) fun a11_ h10_ => (if ¬ a11_ = 0 then (if ¬ x5 = 0 then (cI (Run d 287 0 [.inr (.inr (.inl 97)), .inl x1, .inl x2, .inl x4, .inl x3, vU] [] h10_) fun a15_ h14_ => some (some (.inl a15_), h14_)) else (cI (Run d 287 0 [.inr (.inr (.inl 97)), .inl x0, .inl x2, .inl x3, .inl x4, vU] [] h10_) fun a17_ h16_ => some (some (.inl a17_), h16_))) else some (some (.inl (-1000000)), h10_))))))))) := by
  refine (R_aload_n zf285_0 rfl zlt_97 rfl).trans ?_
  refine (R_iconst zf285_1 zw_0 rfl).trans ?_
  refine (R_putI zf285_2 zo_285 zfl_12_96 zk1_97 zft_12_0 rfl).trans ?_
  refine (R_aload_n zf285_5 rfl zlt_97 rfl).trans ?_
  refine (R_iload_n zf285_6 rfl rfl).trans ?_
  refine (R_iload_n zf285_7 rfl rfl).trans ?_
  refine (R_iload_n zf285_8 rfl rfl).trans ?_
  refine (R_vcallI zf285_9 zo_285 zvl_12_500 (by rw [zr_286]; rfl) zl_286 (Nat.le_of_ble_eq_true rfl) rfl rfl (Nat.le_of_ble_eq_true rfl) (Nat.le_of_ble_eq_true rfl) (es := [.inr (.inr (.inl 97)), .inl x0, .inl x1, .inl x2]) rfl rfl zk1_97 zo_286).trans ?_
  refine congrArg (cI _) (funext fun a2_ => funext fun h1_ => ?_)
  refine (R_if_eq (t := 48) zf285_12 rfl rfl).trans ?_
  refine ite_congr rfl (fun c3_ => ?_) (fun c3_ => ?_)
  · refine (R_ldc_w zf285_48 zo_285 zcl_12_421 rfl).trans ?_
    exact R_ireturn_i zf285_51 zr_285
  · refine (R_iload zf285_15 rfl rfl).trans ?_
    refine (R_i2l zf285_17 rfl).trans ?_
    refine (R_lconst (v := 0) zf285_18 rfl rfl).trans ?_
    refine (R_lconst (v := 1) zf285_19 rfl rfl).trans ?_
    refine (R_callI zf285_20 zo_285 zsl_12_217 (by rw [zr_183]; rfl) zl_183 (Nat.le_of_ble_eq_true rfl) rfl rfl (Nat.le_of_ble_eq_true rfl) (Nat.le_of_ble_eq_true rfl) (es := [.inr (.inl x3), vU, .inr (.inl 0), vU, .inr (.inl 1), vU]) rfl rfl).trans ?_
    refine congrArg (cI _) (funext fun a5_ => funext fun h4_ => ?_)
    refine (R_if_eq (t := 48) zf285_23 rfl rfl).trans ?_
    refine ite_congr rfl (fun c6_ => ?_) (fun c6_ => ?_)
    · refine (R_ldc_w zf285_48 zo_285 zcl_12_421 rfl).trans ?_
      exact R_ireturn_i zf285_51 zr_285
    · refine (R_iload zf285_26 rfl rfl).trans ?_
      refine (R_i2l zf285_28 rfl).trans ?_
      refine (R_lconst (v := 0) zf285_29 rfl rfl).trans ?_
      refine (R_lconst (v := 1) zf285_30 rfl rfl).trans ?_
      refine (R_callI zf285_31 zo_285 zsl_12_217 (by rw [zr_183]; rfl) zl_183 (Nat.le_of_ble_eq_true rfl) rfl rfl (Nat.le_of_ble_eq_true rfl) (Nat.le_of_ble_eq_true rfl) (es := [.inr (.inl x4), vU, .inr (.inl 0), vU, .inr (.inl 1), vU]) rfl rfl).trans ?_
      refine congrArg (cI _) (funext fun a8_ => funext fun h7_ => ?_)
      refine (R_if_eq (t := 48) zf285_34 rfl rfl).trans ?_
      refine ite_congr rfl (fun c9_ => ?_) (fun c9_ => ?_)
      · refine (R_ldc_w zf285_48 zo_285 zcl_12_421 rfl).trans ?_
        exact R_ireturn_i zf285_51 zr_285
      · refine (R_iload zf285_37 rfl rfl).trans ?_
        refine (R_i2l zf285_39 rfl).trans ?_
        refine (R_lconst (v := 0) zf285_40 rfl rfl).trans ?_
        refine (R_lconst (v := 1) zf285_41 rfl rfl).trans ?_
        refine (R_callI zf285_42 zo_285 zsl_12_217 (by rw [zr_183]; rfl) zl_183 (Nat.le_of_ble_eq_true rfl) rfl rfl (Nat.le_of_ble_eq_true rfl) (Nat.le_of_ble_eq_true rfl) (es := [.inr (.inl x5), vU, .inr (.inl 0), vU, .inr (.inl 1), vU]) rfl rfl).trans ?_
        refine congrArg (cI _) (funext fun a11_ => funext fun h10_ => ?_)
        refine (R_if_ne (t := 52) zf285_45 rfl rfl).trans ?_
        refine ite_congr rfl (fun c12_ => ?_) (fun c12_ => ?_)
        · refine (R_iload zf285_52 rfl rfl).trans ?_
          refine (R_if_ne (t := 70) zf285_54 rfl rfl).trans ?_
          refine ite_congr rfl (fun c13_ => ?_) (fun c13_ => ?_)
          · refine (R_aload_n zf285_70 rfl zlt_97 rfl).trans ?_
            refine (R_iload_n zf285_71 rfl rfl).trans ?_
            refine (R_iload_n zf285_72 rfl rfl).trans ?_
            refine (R_iload zf285_73 rfl rfl).trans ?_
            refine (R_iload zf285_75 rfl rfl).trans ?_
            refine (R_vcallI zf285_77 zo_285 zvl_12_503 (by rw [zr_287]; rfl) zl_287 (Nat.le_of_ble_eq_true rfl) rfl rfl (Nat.le_of_ble_eq_true rfl) (Nat.le_of_ble_eq_true rfl) (es := [.inr (.inr (.inl 97)), .inl x1, .inl x2, .inl x4, .inl x3, vU]) rfl rfl zk1_97 zo_287).trans ?_
            refine congrArg (cI _) (funext fun a15_ => funext fun h14_ => ?_)
            exact R_ireturn_i zf285_80 zr_285
          · refine (R_aload_n zf285_57 rfl zlt_97 rfl).trans ?_
            refine (R_iload_n zf285_58 rfl rfl).trans ?_
            refine (R_iload_n zf285_59 rfl rfl).trans ?_
            refine (R_iload zf285_60 rfl rfl).trans ?_
            refine (R_iload zf285_62 rfl rfl).trans ?_
            refine (R_vcallI zf285_64 zo_285 zvl_12_503 (by rw [zr_287]; rfl) zl_287 (Nat.le_of_ble_eq_true rfl) rfl rfl (Nat.le_of_ble_eq_true rfl) (Nat.le_of_ble_eq_true rfl) (es := [.inr (.inr (.inl 97)), .inl x0, .inl x2, .inl x3, .inl x4, vU]) rfl rfl zk1_97 zo_287).trans ?_
            refine congrArg (cI _) (funext fun a17_ => funext fun h16_ => ?_)
            refine (R_goto (t := 80) zf285_67 rfl).trans ?_
            exact R_ireturn_i zf285_80 zr_285
        · refine (R_ldc_w zf285_48 zo_285 zcl_12_421 rfl).trans ?_
          exact R_ireturn_i zf285_51 zr_285
-- CannonPostModel.rests(IIII)I at 0
theorem q288_0 (d : Nat) (x0 : Int) (x1 : Int) (x2 : Int) (x3 : Int) (h : MH) : Run (d + 1) 288 0 [.inr (.inr (.inl 97)), .inl x0, .inl x1, .inl x2, .inl x3, vU, vU, vU, vU] [] h = (cI (Run d 286 0 [.inr (.inr (.inl 97)), .inl x0, .inl x1, .inl x2] [] (up h 97 0 0)) fun a2_ h1_ => (if a2_ = 0 then some (some (.inl (-1)), h1_) else (if (-1) ≤ x3 then Run (d + 1) 288 29 [.inr (.inr (.inl 97)), .inl x0, .inl x1, .inl x2, .inl x3, .inl 0, .inl 0, vU, vU] [] h1_ else some (some (.inl (-1)), h1_)))) := by
  refine (R_aload_n zf288_0 rfl zlt_97 rfl).trans ?_
  refine (R_iconst zf288_1 zw_0 rfl).trans ?_
  refine (R_putI zf288_2 zo_288 zfl_12_96 zk1_97 zft_12_0 rfl).trans ?_
  refine (R_aload_n zf288_5 rfl zlt_97 rfl).trans ?_
  refine (R_iload_n zf288_6 rfl rfl).trans ?_
  refine (R_iload_n zf288_7 rfl rfl).trans ?_
  refine (R_iload_n zf288_8 rfl rfl).trans ?_
  refine (R_vcallI zf288_9 zo_288 zvl_12_500 (by rw [zr_286]; rfl) zl_286 (Nat.le_of_ble_eq_true rfl) rfl rfl (Nat.le_of_ble_eq_true rfl) (Nat.le_of_ble_eq_true rfl) (es := [.inr (.inr (.inl 97)), .inl x0, .inl x1, .inl x2]) rfl rfl zk1_97 zo_286).trans ?_
  refine congrArg (cI _) (funext fun a2_ => funext fun h1_ => ?_)
  refine (R_if_eq (t := 21) zf288_12 rfl rfl).trans ?_
  refine ite_congr rfl (fun c3_ => ?_) (fun c3_ => ?_)
  · refine (R_iconst zf288_21 zw_m1 rfl).trans ?_
    exact R_ireturn_i zf288_22 zr_288
  · refine (R_iload zf288_15 rfl rfl).trans ?_
    refine (R_iconst zf288_17 zw_m1 rfl).trans ?_
    refine (R_icmp_ge (t := 23) zf288_18 rfl rfl).trans ?_
    refine ite_congr rfl (fun c4_ => ?_) (fun c4_ => ?_)
    · refine (R_iconst zf288_23 zw_0 rfl).trans ?_
      refine (R_istore (ls' := [.inr (.inr (.inl 97)), .inl x0, .inl x1, .inl x2, .inl x3, .inl 0, vU, vU, vU]) zf288_24 (Nat.le_of_ble_eq_true rfl) rfl rfl).trans ?_
      refine (R_iconst zf288_26 zw_0 rfl).trans ?_
      refine (R_istore (ls' := [.inr (.inr (.inl 97)), .inl x0, .inl x1, .inl x2, .inl x3, .inl 0, .inl 0, vU, vU]) zf288_27 (Nat.le_of_ble_eq_true rfl) rfl rfl).trans ?_
      rfl
    · refine (R_iconst zf288_21 zw_m1 rfl).trans ?_
      exact R_ireturn_i zf288_22 zr_288
-- CannonPostModel.face(IZ)I at 0
theorem q289_0 (d : Nat) (x0 : Int) (x1 : Int) (h : MH) : Run (d + 1) 289 0 [.inr (.inr (.inl 97)), .inl x0, .inl x1] [] h = (cI (Run d 220 0 [.inr (.inr (.inl 97)), .inl x0] [] (up h 97 0 0)) fun a2_ h1_ => (if a2_ = 0 then some (some (.inl (-1)), h1_) else (if ¬ (h1_ 97 49) = 12 then (if 0 ≤ (h1_ 97 49) ∧ (h1_ 97 49) < 12 then (if (0 ≤ ((up h1_ 117 (h1_ 97 49).toNat x0) 97 49) ∧ ((up h1_ 117 (h1_ 97 49).toNat x0) 97 49) < 12) ∧ (x1 = 0 ∨ x1 = 1) then some (some (.inl ((up (up (up h1_ 117 (h1_ 97 49).toNat x0) 118 ((up h1_ 117 (h1_ 97 49).toNat x0) 97 49).toNat x1) 97 49 (wI (((up (up h1_ 117 (h1_ 97 49).toNat x0) 118 ((up h1_ 117 (h1_ 97 49).toNat x0) 97 49).toNat x1) 97 49) + 1))) 97 49)), (up (up (up h1_ 117 (h1_ 97 49).toNat x0) 118 ((up h1_ 117 (h1_ 97 49).toNat x0) 97 49).toNat x1) 97 49 (wI (((up (up h1_ 117 (h1_ 97 49).toNat x0) 118 ((up h1_ 117 (h1_ 97 49).toNat x0) 97 49).toNat x1) 97 49) + 1)))) else none) else none) else some (some (.inl (-1)), h1_)))) := by
  refine (R_aload_n zf289_0 rfl zlt_97 rfl).trans ?_
  refine (R_iconst zf289_1 zw_0 rfl).trans ?_
  refine (R_putI zf289_2 zo_289 zfl_12_96 zk1_97 zft_12_0 rfl).trans ?_
  refine (R_aload_n zf289_5 rfl zlt_97 rfl).trans ?_
  refine (R_iload_n zf289_6 rfl rfl).trans ?_
  refine (R_vcallI zf289_7 zo_289 zvl_12_362 (by rw [zr_220]; rfl) zl_220 (Nat.le_of_ble_eq_true rfl) rfl rfl (Nat.le_of_ble_eq_true rfl) (Nat.le_of_ble_eq_true rfl) (es := [.inr (.inr (.inl 97)), .inl x0]) rfl rfl zk1_97 zo_220).trans ?_
  refine congrArg (cI _) (funext fun a2_ => funext fun h1_ => ?_)
  refine (R_if_eq (t := 22) zf289_10 rfl rfl).trans ?_
  refine ite_congr rfl (fun c3_ => ?_) (fun c3_ => ?_)
  · refine (R_iconst zf289_22 zw_m1 rfl).trans ?_
    exact R_ireturn_i zf289_23 zr_289
  · refine (R_aload_n zf289_13 rfl zlt_97 rfl).trans ?_
    refine (R_getI zf289_14 zo_289 zfl_12_306 zk1_97 zft_12_49 rfl).trans ?_
    refine (R_bipush zf289_17 zb_12 rfl).trans ?_
    refine (R_icmp_ne (t := 24) zf289_19 rfl rfl).trans ?_
    refine ite_congr rfl (fun c4_ => ?_) (fun c4_ => ?_)
    · refine (R_aload_n zf289_24 rfl zlt_97 rfl).trans ?_
      refine (R_getR zf289_25 zo_289 zfl_12_86 zk1_97 zft_12_47 zmr_97_47 rfl).trans ?_
      refine (R_aload_n zf289_28 rfl zlt_97 rfl).trans ?_
      refine (R_getI zf289_29 zo_289 zfl_12_306 zk1_97 zft_12_49 rfl).trans ?_
      refine (R_iload_n zf289_32 rfl rfl).trans ?_
      refine (R_iast zf289_33 zk_117 rfl).trans ?_
      refine ite_congr rfl (fun c5_ => ?_) (fun _ => rfl)
      refine (R_aload_n zf289_34 rfl zlt_97 rfl).trans ?_
      refine (R_getR zf289_35 zo_289 zfl_12_89 zk1_97 zft_12_48 zmr_97_48 rfl).trans ?_
      refine (R_aload_n zf289_38 rfl zlt_97 rfl).trans ?_
      refine (R_getI zf289_39 zo_289 zfl_12_306 zk1_97 zft_12_49 rfl).trans ?_
      refine (R_iload_n zf289_42 rfl rfl).trans ?_
      refine (R_zast zf289_43 zk_118 rfl).trans ?_
      refine ite_congr rfl (fun c6_ => ?_) (fun _ => rfl)
      refine (R_aload_n zf289_44 rfl zlt_97 rfl).trans ?_
      refine (R_dup zf289_45 rfl rfl).trans ?_
      refine (R_getI zf289_46 zo_289 zfl_12_306 zk1_97 zft_12_49 rfl).trans ?_
      refine (R_iconst zf289_49 zw_1 rfl).trans ?_
      refine (R_iadd zf289_50 rfl).trans ?_
      refine (R_putI zf289_51 zo_289 zfl_12_306 zk1_97 zft_12_49 rfl).trans ?_
      refine (R_aload_n zf289_54 rfl zlt_97 rfl).trans ?_
      refine (R_getI zf289_55 zo_289 zfl_12_306 zk1_97 zft_12_49 rfl).trans ?_
      exact R_ireturn_i zf289_58 zr_289
    · refine (R_iconst zf289_22 zw_m1 rfl).trans ?_
      exact R_ireturn_i zf289_23 zr_289
-- CannonPostModel.meant(I)I at 0
theorem q290_0 (d : Nat) (x0 : Int) (h : MH) : Run (d + 1) 290 0 [.inr (.inr (.inl 97)), .inl x0] [] h = (cI (Run d 220 0 [.inr (.inr (.inl 97)), .inl x0] [] (up h 97 0 0)) fun a2_ h1_ => (if a2_ = 0 then some (some (.inl (-1)), h1_) else (cI (Run d 291 0 [.inr (.inr (.inl 97)), .inl x0, vU, vU, vU] [] h1_) fun a5_ h4_ => some (some (.inl a5_), h4_)))) := by
  refine (R_aload_n zf290_0 rfl zlt_97 rfl).trans ?_
  refine (R_iconst zf290_1 zw_0 rfl).trans ?_
  refine (R_putI zf290_2 zo_290 zfl_12_96 zk1_97 zft_12_0 rfl).trans ?_
  refine (R_aload_n zf290_5 rfl zlt_97 rfl).trans ?_
  refine (R_iload_n zf290_6 rfl rfl).trans ?_
  refine (R_vcallI zf290_7 zo_290 zvl_12_362 (by rw [zr_220]; rfl) zl_220 (Nat.le_of_ble_eq_true rfl) rfl rfl (Nat.le_of_ble_eq_true rfl) (Nat.le_of_ble_eq_true rfl) (es := [.inr (.inr (.inl 97)), .inl x0]) rfl rfl zk1_97 zo_220).trans ?_
  refine congrArg (cI _) (funext fun a2_ => funext fun h1_ => ?_)
  refine (R_if_eq (t := 21) zf290_10 rfl rfl).trans ?_
  refine ite_congr rfl (fun c3_ => ?_) (fun c3_ => ?_)
  · refine (R_iconst zf290_21 zw_m1 rfl).trans ?_
    exact R_ireturn_i zf290_22 zr_290
  · refine (R_aload_n zf290_13 rfl zlt_97 rfl).trans ?_
    refine (R_iload_n zf290_14 rfl rfl).trans ?_
    refine (R_vcallI zf290_15 zo_290 zvl_12_511 (by rw [zr_291]; rfl) zl_291 (Nat.le_of_ble_eq_true rfl) rfl rfl (Nat.le_of_ble_eq_true rfl) (Nat.le_of_ble_eq_true rfl) (es := [.inr (.inr (.inl 97)), .inl x0, vU, vU, vU]) rfl rfl zk1_97 zo_291).trans ?_
    refine congrArg (cI _) (funext fun a5_ => funext fun h4_ => ?_)
    refine (R_goto (t := 22) zf290_18 rfl).trans ?_
    exact R_ireturn_i zf290_22 zr_290
-- CannonPostModel.following()I at 0
theorem q293_0 (d : Nat) (h : MH) : Run (d + 1) 293 0 [.inr (.inr (.inl 97)), vU, vU, vU] [] h = Run (d + 1) 293 9 [.inr (.inr (.inl 97)), .inl 0, .inl 0, vU] [] (up h 97 0 0) := by
  refine (R_aload_n zf293_0 rfl zlt_97 rfl).trans ?_
  refine (R_iconst zf293_1 zw_0 rfl).trans ?_
  refine (R_putI zf293_2 zo_293 zfl_12_96 zk1_97 zft_12_0 rfl).trans ?_
  refine (R_iconst zf293_5 zw_0 rfl).trans ?_
  refine (R_istore_n (ls' := [.inr (.inr (.inl 97)), .inl 0, vU, vU]) zf293_6 (Nat.le_of_ble_eq_true rfl) rfl rfl).trans ?_
  refine (R_iconst zf293_7 zw_0 rfl).trans ?_
  refine (R_istore_n (ls' := [.inr (.inr (.inl 97)), .inl 0, .inl 0, vU]) zf293_8 (Nat.le_of_ble_eq_true rfl) rfl rfl).trans ?_
  rfl
-- CannonPostModel.stock(I)I at 0
theorem q294_0 (d : Nat) (x0 : Int) (h : MH) : Run (d + 1) 294 0 [.inr (.inr (.inl 97)), .inl x0] [] h = (if ((up h 97 0 0) 97 26) ≤ 0 then some (some (.inl (-1)), (up h 97 0 0)) else (cI (Run d 183 0 [.inr (.inl x0), vU, .inr (.inl 1), vU, .inr (.inl 20), vU] [] (up h 97 0 0)) fun a3_ h2_ => (if a3_ = 0 then some (some (.inl (-1)), h2_) else (if x0 = 0 then none else some (some (.inl (wI ((h2_ 110 31).tdiv x0))), h2_))))) := by
  refine (R_aload_n zf294_0 rfl zlt_97 rfl).trans ?_
  refine (R_iconst zf294_1 zw_0 rfl).trans ?_
  refine (R_putI zf294_2 zo_294 zfl_12_96 zk1_97 zft_12_0 rfl).trans ?_
  refine (R_aload_n zf294_5 rfl zlt_97 rfl).trans ?_
  refine (R_getI zf294_6 zo_294 zfl_12_294 zk1_97 zft_12_26 rfl).trans ?_
  refine (R_if_le (t := 36) zf294_9 rfl rfl).trans ?_
  refine ite_congr rfl (fun c1_ => ?_) (fun c1_ => ?_)
  · refine (R_iconst zf294_36 zw_m1 rfl).trans ?_
    exact R_ireturn_i zf294_37 zr_294
  · refine (R_iload_n zf294_12 rfl rfl).trans ?_
    refine (R_i2l zf294_13 rfl).trans ?_
    refine (R_lconst (v := 1) zf294_14 rfl rfl).trans ?_
    refine (R_ldc2_w zf294_15 zo_294 zll_12_346 rfl).trans ?_
    refine (R_callI zf294_18 zo_294 zsl_12_217 (by rw [zr_183]; rfl) zl_183 (Nat.le_of_ble_eq_true rfl) rfl rfl (Nat.le_of_ble_eq_true rfl) (Nat.le_of_ble_eq_true rfl) (es := [.inr (.inl x0), vU, .inr (.inl 1), vU, .inr (.inl 20), vU]) rfl rfl).trans ?_
    refine congrArg (cI _) (funext fun a3_ => funext fun h2_ => ?_)
    refine (R_if_eq (t := 36) zf294_21 rfl rfl).trans ?_
    refine ite_congr rfl (fun c4_ => ?_) (fun c4_ => ?_)
    · refine (R_iconst zf294_36 zw_m1 rfl).trans ?_
      exact R_ireturn_i zf294_37 zr_294
    · refine (R_aload_n zf294_24 rfl zlt_97 rfl).trans ?_
      refine (R_getR zf294_25 zo_294 zfl_12_61 zk1_97 zft_12_32 zmr_97_32 rfl).trans ?_
      refine (R_bipush zf294_28 zb_31 rfl).trans ?_
      refine (R_ialdc zf294_30 zk_110 (by decide) rfl rfl).trans ?_
      refine (R_iload_n zf294_31 rfl rfl).trans ?_
      refine (R_idiv0 zf294_32 rfl).trans ?_
      refine ite_congr rfl (fun _ => rfl) (fun _ => ?_)
      refine (R_goto (t := 37) zf294_33 rfl).trans ?_
      exact R_ireturn_i zf294_37 zr_294
-- CannonPostModel.hays(I)I at 0
theorem q295_0 (d : Nat) (x0 : Int) (h : MH) : Run (d + 1) 295 0 [.inr (.inr (.inl 97)), .inl x0, vU] [] h = (if ((up h 97 0 0) 97 26) = 0 then some (some (.inl (-1)), (up h 97 0 0)) else (cI (Run d 183 0 [.inr (.inl x0), vU, .inr (.inl 0), vU, .inr (.inl 9), vU] [] (up h 97 0 0)) fun a3_ h2_ => (if ¬ a3_ = 0 then (cV (Run d 256 0 [.inr (.inr (.inl 110)), .inr (.inr (.inl 111)), vU, vU] [] h2_) fun h5_ => Run (d + 1) 295 39 [.inr (.inr (.inl 97)), .inl x0, .inl 0] [] h5_) else some (some (.inl (-1)), h2_)))) := by
  refine (R_aload_n zf295_0 rfl zlt_97 rfl).trans ?_
  refine (R_iconst zf295_1 zw_0 rfl).trans ?_
  refine (R_putI zf295_2 zo_295 zfl_12_96 zk1_97 zft_12_0 rfl).trans ?_
  refine (R_aload_n zf295_5 rfl zlt_97 rfl).trans ?_
  refine (R_getI zf295_6 zo_295 zfl_12_294 zk1_97 zft_12_26 rfl).trans ?_
  refine (R_if_eq (t := 24) zf295_9 rfl rfl).trans ?_
  refine ite_congr rfl (fun c1_ => ?_) (fun c1_ => ?_)
  · refine (R_iconst zf295_24 zw_m1 rfl).trans ?_
    exact R_ireturn_i zf295_25 zr_295
  · refine (R_iload_n zf295_12 rfl rfl).trans ?_
    refine (R_i2l zf295_13 rfl).trans ?_
    refine (R_lconst (v := 0) zf295_14 rfl rfl).trans ?_
    refine (R_ldc2_w zf295_15 zo_295 zll_12_367 rfl).trans ?_
    refine (R_callI zf295_18 zo_295 zsl_12_217 (by rw [zr_183]; rfl) zl_183 (Nat.le_of_ble_eq_true rfl) rfl rfl (Nat.le_of_ble_eq_true rfl) (Nat.le_of_ble_eq_true rfl) (es := [.inr (.inl x0), vU, .inr (.inl 0), vU, .inr (.inl 9), vU]) rfl rfl).trans ?_
    refine congrArg (cI _) (funext fun a3_ => funext fun h2_ => ?_)
    refine (R_if_ne (t := 26) zf295_21 rfl rfl).trans ?_
    refine ite_congr rfl (fun c4_ => ?_) (fun c4_ => ?_)
    · refine (R_aload_n zf295_26 rfl zlt_97 rfl).trans ?_
      refine (R_getR zf295_27 zo_295 zfl_12_61 zk1_97 zft_12_32 zmr_97_32 rfl).trans ?_
      refine (R_aload_n zf295_30 rfl zlt_97 rfl).trans ?_
      refine (R_getR zf295_31 zo_295 zfl_12_64 zk1_97 zft_12_33 zmr_97_33 rfl).trans ?_
      refine (R_callV zf295_34 zo_295 zsl_12_425 zr_256 zl_256 (Nat.le_of_ble_eq_true rfl) rfl rfl (Nat.le_of_ble_eq_true rfl) (Nat.le_of_ble_eq_true rfl) (es := [.inr (.inr (.inl 110)), .inr (.inr (.inl 111)), vU, vU]) rfl rfl).trans ?_
      refine congrArg (cV _) (funext fun h5_ => ?_)
      refine (R_iconst zf295_37 zw_0 rfl).trans ?_
      refine (R_istore_n (ls' := [.inr (.inr (.inl 97)), .inl x0, .inl 0]) zf295_38 (Nat.le_of_ble_eq_true rfl) rfl rfl).trans ?_
      rfl
    · refine (R_iconst zf295_24 zw_m1 rfl).trans ?_
      exact R_ireturn_i zf295_25 zr_295
-- CannonPostModel.best(II)I at 0
theorem q297_0 (d : Nat) (x0 : Int) (x1 : Int) (h : MH) : Run (d + 1) 297 0 [.inr (.inr (.inl 97)), .inl x0, .inl x1, vU, vU] [] h = (if ((up h 97 0 0) 97 26) = 0 then some (some (.inl (-1)), (up h 97 0 0)) else (cI (Run d 183 0 [.inr (.inl x0), vU, .inr (.inl 0), vU, .inr (.inl 1), vU] [] (up h 97 0 0)) fun a3_ h2_ => (if ¬ a3_ = 0 then (if ¬ x0 = 1 then Run (d + 1) 297 40 [.inr (.inr (.inl 97)), .inl x0, .inl x1, .inl 0, .inl 1] [] h2_ else (cI (Run d 298 0 [.inr (.inr (.inl 97)), .inl x1, vU, vU] [] h2_) fun a7_ h6_ => some (some (.inl a7_), h6_))) else some (some (.inl (-1)), h2_)))) := by
  refine (R_aload_n zf297_0 rfl zlt_97 rfl).trans ?_
  refine (R_iconst zf297_1 zw_0 rfl).trans ?_
  refine (R_putI zf297_2 zo_297 zfl_12_96 zk1_97 zft_12_0 rfl).trans ?_
  refine (R_aload_n zf297_5 rfl zlt_97 rfl).trans ?_
  refine (R_getI zf297_6 zo_297 zfl_12_294 zk1_97 zft_12_26 rfl).trans ?_
  refine (R_if_eq (t := 22) zf297_9 rfl rfl).trans ?_
  refine ite_congr rfl (fun c1_ => ?_) (fun c1_ => ?_)
  · refine (R_iconst zf297_22 zw_m1 rfl).trans ?_
    exact R_ireturn_i zf297_23 zr_297
  · refine (R_iload_n zf297_12 rfl rfl).trans ?_
    refine (R_i2l zf297_13 rfl).trans ?_
    refine (R_lconst (v := 0) zf297_14 rfl rfl).trans ?_
    refine (R_lconst (v := 1) zf297_15 rfl rfl).trans ?_
    refine (R_callI zf297_16 zo_297 zsl_12_217 (by rw [zr_183]; rfl) zl_183 (Nat.le_of_ble_eq_true rfl) rfl rfl (Nat.le_of_ble_eq_true rfl) (Nat.le_of_ble_eq_true rfl) (es := [.inr (.inl x0), vU, .inr (.inl 0), vU, .inr (.inl 1), vU]) rfl rfl).trans ?_
    refine congrArg (cI _) (funext fun a3_ => funext fun h2_ => ?_)
    refine (R_if_ne (t := 24) zf297_19 rfl rfl).trans ?_
    refine ite_congr rfl (fun c4_ => ?_) (fun c4_ => ?_)
    · refine (R_iload_n zf297_24 rfl rfl).trans ?_
      refine (R_iconst zf297_25 zw_1 rfl).trans ?_
      refine (R_icmp_ne (t := 35) zf297_26 rfl rfl).trans ?_
      refine ite_congr rfl (fun c5_ => ?_) (fun c5_ => ?_)
      · refine (R_iconst zf297_35 zw_0 rfl).trans ?_
        refine (R_istore_n (ls' := [.inr (.inr (.inl 97)), .inl x0, .inl x1, .inl 0, vU]) zf297_36 (Nat.le_of_ble_eq_true rfl) rfl rfl).trans ?_
        refine (R_iconst zf297_37 zw_1 rfl).trans ?_
        refine (R_istore (ls' := [.inr (.inr (.inl 97)), .inl x0, .inl x1, .inl 0, .inl 1]) zf297_38 (Nat.le_of_ble_eq_true rfl) rfl rfl).trans ?_
        rfl
      · refine (R_aload_n zf297_29 rfl zlt_97 rfl).trans ?_
        refine (R_iload_n zf297_30 rfl rfl).trans ?_
        refine (R_vcallI zf297_31 zo_297 zvl_12_518 (by rw [zr_298]; rfl) zl_298 (Nat.le_of_ble_eq_true rfl) rfl rfl (Nat.le_of_ble_eq_true rfl) (Nat.le_of_ble_eq_true rfl) (es := [.inr (.inr (.inl 97)), .inl x1, vU, vU]) rfl rfl zk1_97 zo_298).trans ?_
        refine congrArg (cI _) (funext fun a7_ => funext fun h6_ => ?_)
        exact R_ireturn_i zf297_34 zr_297
    · refine (R_iconst zf297_22 zw_m1 rfl).trans ?_
      exact R_ireturn_i zf297_23 zr_297
-- CannonPostModel.free()I at 0
theorem q299_0 (d : Nat) (h : MH) : Run (d + 1) 299 0 [.inr (.inr (.inl 97)), vU, vU] [] h = (if ¬ ((up h 97 0 0) 97 26) = 0 then Run (d + 1) 299 18 [.inr (.inr (.inl 97)), .inl 0, .inl 0] [] (up h 97 0 0) else some (some (.inl (-1)), (up h 97 0 0))) := by
  refine (R_aload_n zf299_0 rfl zlt_97 rfl).trans ?_
  refine (R_iconst zf299_1 zw_0 rfl).trans ?_
  refine (R_putI zf299_2 zo_299 zfl_12_96 zk1_97 zft_12_0 rfl).trans ?_
  refine (R_aload_n zf299_5 rfl zlt_97 rfl).trans ?_
  refine (R_getI zf299_6 zo_299 zfl_12_294 zk1_97 zft_12_26 rfl).trans ?_
  refine (R_if_ne (t := 14) zf299_9 rfl rfl).trans ?_
  refine ite_congr rfl (fun c1_ => ?_) (fun c1_ => ?_)
  · refine (R_iconst zf299_14 zw_0 rfl).trans ?_
    refine (R_istore_n (ls' := [.inr (.inr (.inl 97)), .inl 0, vU]) zf299_15 (Nat.le_of_ble_eq_true rfl) rfl rfl).trans ?_
    refine (R_iconst zf299_16 zw_0 rfl).trans ?_
    refine (R_istore_n (ls' := [.inr (.inr (.inl 97)), .inl 0, .inl 0]) zf299_17 (Nat.le_of_ble_eq_true rfl) rfl rfl).trans ?_
    rfl
  · refine (R_iconst zf299_12 zw_m1 rfl).trans ?_
    exact R_ireturn_i zf299_13 zr_299
-- CannonPostModel.home(I)I at 0
theorem q300_0 (d : Nat) (x0 : Int) (h : MH) : Run (d + 1) 300 0 [.inr (.inr (.inl 97)), .inl x0, vU, vU] [] h = (cI (Run d 220 0 [.inr (.inr (.inl 97)), .inl x0] [] (up h 97 0 0)) fun a2_ h1_ => (if ¬ a2_ = 0 then Run (d + 1) 300 19 [.inr (.inr (.inl 97)), .inl x0, .inl 0, .inl 0] [] h1_ else some (some (.inl (-1)), h1_))) := by
  refine (R_aload_n zf300_0 rfl zlt_97 rfl).trans ?_
  refine (R_iconst zf300_1 zw_0 rfl).trans ?_
  refine (R_putI zf300_2 zo_300 zfl_12_96 zk1_97 zft_12_0 rfl).trans ?_
  refine (R_aload_n zf300_5 rfl zlt_97 rfl).trans ?_
  refine (R_iload_n zf300_6 rfl rfl).trans ?_
  refine (R_vcallI zf300_7 zo_300 zvl_12_362 (by rw [zr_220]; rfl) zl_220 (Nat.le_of_ble_eq_true rfl) rfl rfl (Nat.le_of_ble_eq_true rfl) (Nat.le_of_ble_eq_true rfl) (es := [.inr (.inr (.inl 97)), .inl x0]) rfl rfl zk1_97 zo_220).trans ?_
  refine congrArg (cI _) (funext fun a2_ => funext fun h1_ => ?_)
  refine (R_if_ne (t := 15) zf300_10 rfl rfl).trans ?_
  refine ite_congr rfl (fun c3_ => ?_) (fun c3_ => ?_)
  · refine (R_iconst zf300_15 zw_0 rfl).trans ?_
    refine (R_istore_n (ls' := [.inr (.inr (.inl 97)), .inl x0, .inl 0, vU]) zf300_16 (Nat.le_of_ble_eq_true rfl) rfl rfl).trans ?_
    refine (R_iconst zf300_17 zw_0 rfl).trans ?_
    refine (R_istore_n (ls' := [.inr (.inr (.inl 97)), .inl x0, .inl 0, .inl 0]) zf300_18 (Nat.le_of_ble_eq_true rfl) rfl rfl).trans ?_
    rfl
  · refine (R_iconst zf300_13 zw_m1 rfl).trans ?_
    exact R_ireturn_i zf300_14 zr_300
-- CannonPostModel.known(I)I at 0
theorem q301_0 (d : Nat) (x0 : Int) (h : MH) : Run (d + 1) 301 0 [.inr (.inr (.inl 97)), .inl x0] [] h = (if ((up h 97 0 0) 97 26) ≤ 0 then some (some (.inl (-1)), (up h 97 0 0)) else (cI (Run d 183 0 [.inr (.inl x0), vU, .inr (.inl 0), vU, .inr (.inl 5), vU] [] (up h 97 0 0)) fun a3_ h2_ => (if a3_ = 0 then some (some (.inl (-1)), h2_) else (cI (Run d 274 0 [.inr (.inr (.inl 97)), .inl x0, vU, vU] [] h2_) fun a6_ h5_ => some (some (.inl a6_), h5_))))) := by
  refine (R_aload_n zf301_0 rfl zlt_97 rfl).trans ?_
  refine (R_iconst zf301_1 zw_0 rfl).trans ?_
  refine (R_putI zf301_2 zo_301 zfl_12_96 zk1_97 zft_12_0 rfl).trans ?_
  refine (R_aload_n zf301_5 rfl zlt_97 rfl).trans ?_
  refine (R_getI zf301_6 zo_301 zfl_12_294 zk1_97 zft_12_26 rfl).trans ?_
  refine (R_if_le (t := 32) zf301_9 rfl rfl).trans ?_
  refine ite_congr rfl (fun c1_ => ?_) (fun c1_ => ?_)
  · refine (R_iconst zf301_32 zw_m1 rfl).trans ?_
    exact R_ireturn_i zf301_33 zr_301
  · refine (R_iload_n zf301_12 rfl rfl).trans ?_
    refine (R_i2l zf301_13 rfl).trans ?_
    refine (R_lconst (v := 0) zf301_14 rfl rfl).trans ?_
    refine (R_ldc2_w zf301_15 zo_301 zll_12_384 rfl).trans ?_
    refine (R_callI zf301_18 zo_301 zsl_12_217 (by rw [zr_183]; rfl) zl_183 (Nat.le_of_ble_eq_true rfl) rfl rfl (Nat.le_of_ble_eq_true rfl) (Nat.le_of_ble_eq_true rfl) (es := [.inr (.inl x0), vU, .inr (.inl 0), vU, .inr (.inl 5), vU]) rfl rfl).trans ?_
    refine congrArg (cI _) (funext fun a3_ => funext fun h2_ => ?_)
    refine (R_if_eq (t := 32) zf301_21 rfl rfl).trans ?_
    refine ite_congr rfl (fun c4_ => ?_) (fun c4_ => ?_)
    · refine (R_iconst zf301_32 zw_m1 rfl).trans ?_
      exact R_ireturn_i zf301_33 zr_301
    · refine (R_aload_n zf301_24 rfl zlt_97 rfl).trans ?_
      refine (R_iload_n zf301_25 rfl rfl).trans ?_
      refine (R_vcallI zf301_26 zo_301 zvl_12_484 (by rw [zr_274]; rfl) zl_274 (Nat.le_of_ble_eq_true rfl) rfl rfl (Nat.le_of_ble_eq_true rfl) (Nat.le_of_ble_eq_true rfl) (es := [.inr (.inr (.inl 97)), .inl x0, vU, vU]) rfl rfl zk1_97 zo_274).trans ?_
      refine congrArg (cI _) (funext fun a6_ => funext fun h5_ => ?_)
      refine (R_goto (t := 33) zf301_29 rfl).trans ?_
      exact R_ireturn_i zf301_33 zr_301
-- CannonPostModel.gusts(IIIII)I at 0
theorem q302_0 (d : Nat) (x0 : Int) (x1 : Int) (x2 : Int) (x3 : Int) (x4 : Int) (h : MH) : Run (d + 1) 302 0 [.inr (.inr (.inl 97)), .inl x0, .inl x1, .inl x2, .inl x3, .inl x4, vU, vU] [] h = (cI (Run d 262 0 [.inr (.inr (.inl 97)), .inl x0, .inl x1, .inl x2, .inl x3] [] (up h 97 0 0)) fun a2_ h1_ => (if a2_ = 0 then some (some (.inl (-1)), h1_) else (cI (Run d 183 0 [.inr (.inl x4), vU, .inr (.inl 0), vU, .inr (.inl 100), vU] [] h1_) fun a5_ h4_ => (if ¬ a5_ = 0 then (cI (Run d 231 0 [.inr (.inr (.inl 97)), .inr (.inr (.inl 110)), .inl x0, .inl x1, .inl x2, .inl x3] [] h4_) fun a8_ h7_ => (cI (Run d 235 0 [.inr (.inr (.inl 97)), .inl a8_, vU] [] h7_) fun a10_ h9_ => (if ¬ a10_ = (-1) then Run (d + 1) 302 62 [.inr (.inr (.inl 97)), .inl x0, .inl x1, .inl x2, .inl x3, .inl x4, vU, vU] [.inl (wI (100 - x4))] h9_ else Run (d + 1) 302 62 [.inr (.inr (.inl 97)), .inl x0, .inl x1, .inl x2, .inl x3, .inl x4, vU, vU] [.inl 0] h9_))) else some (some (.inl (-1)), h4_))))) := by
  refine (R_aload_n zf302_0 rfl zlt_97 rfl).trans ?_
  refine (R_iconst zf302_1 zw_0 rfl).trans ?_
  refine (R_putI zf302_2 zo_302 zfl_12_96 zk1_97 zft_12_0 rfl).trans ?_
  refine (R_aload_n zf302_5 rfl zlt_97 rfl).trans ?_
  refine (R_iload_n zf302_6 rfl rfl).trans ?_
  refine (R_iload_n zf302_7 rfl rfl).trans ?_
  refine (R_iload_n zf302_8 rfl rfl).trans ?_
  refine (R_iload zf302_9 rfl rfl).trans ?_
  refine (R_vcallI zf302_11 zo_302 zvl_12_439 (by rw [zr_262]; rfl) zl_262 (Nat.le_of_ble_eq_true rfl) rfl rfl (Nat.le_of_ble_eq_true rfl) (Nat.le_of_ble_eq_true rfl) (es := [.inr (.inr (.inl 97)), .inl x0, .inl x1, .inl x2, .inl x3]) rfl rfl zk1_97 zo_262).trans ?_
  refine congrArg (cI _) (funext fun a2_ => funext fun h1_ => ?_)
  refine (R_if_eq (t := 30) zf302_14 rfl rfl).trans ?_
  refine ite_congr rfl (fun c3_ => ?_) (fun c3_ => ?_)
  · refine (R_iconst zf302_30 zw_m1 rfl).trans ?_
    exact R_ireturn_i zf302_31 zr_302
  · refine (R_iload zf302_17 rfl rfl).trans ?_
    refine (R_i2l zf302_19 rfl).trans ?_
    refine (R_lconst (v := 0) zf302_20 rfl rfl).trans ?_
    refine (R_ldc2_w zf302_21 zo_302 zll_12_489 rfl).trans ?_
    refine (R_callI zf302_24 zo_302 zsl_12_217 (by rw [zr_183]; rfl) zl_183 (Nat.le_of_ble_eq_true rfl) rfl rfl (Nat.le_of_ble_eq_true rfl) (Nat.le_of_ble_eq_true rfl) (es := [.inr (.inl x4), vU, .inr (.inl 0), vU, .inr (.inl 100), vU]) rfl rfl).trans ?_
    refine congrArg (cI _) (funext fun a5_ => funext fun h4_ => ?_)
    refine (R_if_ne (t := 32) zf302_27 rfl rfl).trans ?_
    refine ite_congr rfl (fun c6_ => ?_) (fun c6_ => ?_)
    · refine (R_aload_n zf302_32 rfl zlt_97 rfl).trans ?_
      refine (R_aload_n zf302_33 rfl zlt_97 rfl).trans ?_
      refine (R_aload_n zf302_34 rfl zlt_97 rfl).trans ?_
      refine (R_getR zf302_35 zo_302 zfl_12_61 zk1_97 zft_12_32 zmr_97_32 rfl).trans ?_
      refine (R_iload_n zf302_38 rfl rfl).trans ?_
      refine (R_iload_n zf302_39 rfl rfl).trans ?_
      refine (R_iload_n zf302_40 rfl rfl).trans ?_
      refine (R_iload zf302_41 rfl rfl).trans ?_
      refine (R_vcallI zf302_43 zo_302 zvl_12_348 (by rw [zr_231]; rfl) zl_231 (Nat.le_of_ble_eq_true rfl) rfl rfl (Nat.le_of_ble_eq_true rfl) (Nat.le_of_ble_eq_true rfl) (es := [.inr (.inr (.inl 97)), .inr (.inr (.inl 110)), .inl x0, .inl x1, .inl x2, .inl x3]) rfl rfl zk1_97 zo_231).trans ?_
      refine congrArg (cI _) (funext fun a8_ => funext fun h7_ => ?_)
      refine (R_vcallI zf302_46 zo_302 zvl_12_352 (by rw [zr_235]; rfl) zl_235 (Nat.le_of_ble_eq_true rfl) rfl rfl (Nat.le_of_ble_eq_true rfl) (Nat.le_of_ble_eq_true rfl) (es := [.inr (.inr (.inl 97)), .inl a8_, vU]) rfl rfl zk1_97 zo_235).trans ?_
      refine congrArg (cI _) (funext fun a10_ => funext fun h9_ => ?_)
      refine (R_iconst zf302_49 zw_m1 rfl).trans ?_
      refine (R_icmp_ne (t := 57) zf302_50 rfl rfl).trans ?_
      refine ite_congr rfl (fun c11_ => ?_) (fun c11_ => ?_)
      · refine (R_bipush zf302_57 zb_100 rfl).trans ?_
        refine (R_iload zf302_59 rfl rfl).trans ?_
        refine (R_isub zf302_61 rfl).trans ?_
        rfl
      · refine (R_iconst zf302_53 zw_0 rfl).trans ?_
        refine (R_goto (t := 62) zf302_54 rfl).trans ?_
        rfl
    · refine (R_iconst zf302_30 zw_m1 rfl).trans ?_
      exact R_ireturn_i zf302_31 zr_302
-- CannonPostModel.passing(II)I at 0
theorem q303_0 (d : Nat) (x0 : Int) (x1 : Int) (h : MH) : Run (d + 1) 303 0 [.inr (.inr (.inl 97)), .inl x0, .inl x1, vU, vU, vU] [] h = (cI (Run d 228 0 [.inr (.inr (.inl 97)), .inr (.inr (.inl 110)), .inl x0] [] (up h 97 0 0)) fun a2_ h1_ => (if a2_ = 0 then some (some (.inl (-1)), h1_) else (cI (Run d 228 0 [.inr (.inr (.inl 97)), .inr (.inr (.inl 110)), .inl x1] [] h1_) fun a5_ h4_ => (if a5_ = 0 then some (some (.inl (-1)), h4_) else (if x0 = x1 then some (some (.inl (-1)), h4_) else (cI (Run d 217 0 [.inl x0] [] h4_) fun a9_ h8_ => (if 0 ≤ a9_ ∧ a9_ < 277 then (cI (Run d 217 0 [.inl x1] [] h8_) fun a12_ h11_ => (if 0 ≤ a12_ ∧ a12_ < 277 then (if ¬ (h8_ 110 a9_.toNat) = (h11_ 110 a12_.toNat) then (cV (Run d 264 0 [.inr (.inr (.inl 97)), .inl x0, vU, vU, vU, vU] [] h11_) fun h15_ => (cV (Run d 264 0 [.inr (.inr (.inl 97)), .inl x1, vU, vU, vU, vU] [] h15_) fun h16_ => (cI (Run d 217 0 [.inl x0] [] h16_) fun a18_ h17_ => (if 0 ≤ a18_ ∧ a18_ < 277 then (cI (Run d 217 0 [.inl x1] [] h17_) fun a21_ h20_ => (if 0 ≤ a21_ ∧ a21_ < 277 then (cI (Run d 265 0 [.inr (.inr (.inl 97)), .inl x0, .inl (h17_ 110 a18_.toNat), .inl (h20_ 110 a21_.toNat)] [] h20_) fun a24_ h23_ => (cI (Run d 217 0 [.inl x1] [] h23_) fun a26_ h25_ => (if 0 ≤ a26_ ∧ a26_ < 277 then (cI (Run d 217 0 [.inl x0] [] h25_) fun a29_ h28_ => (if 0 ≤ a29_ ∧ a29_ < 277 then (cI (Run d 265 0 [.inr (.inr (.inl 97)), .inl x1, .inl (h25_ 110 a26_.toNat), .inl (h28_ 110 a29_.toNat)] [] h28_) fun a32_ h31_ => (if a24_ = 0 then some (some (.inl (-1)), h31_) else (if ¬ a32_ = 0 then (cI (Run d 223 0 [.inr (.inr (.inl 97)), .inl x0, .inl 0] [] h31_) fun a36_ h35_ => (cI (Run d 223 0 [.inr (.inr (.inl 97)), .inl x1, .inl 0] [] h35_) fun a38_ h37_ => (if (wI ((wI ((wI (a36_ + a24_)) - a38_)) - a32_)) ≤ 0 then (if 0 ≤ (wI ((wI ((wI (a36_ + a24_)) - a38_)) - a32_)) then some (some (.inl 0), h37_) else some (some (.inl 2), h37_)) else some (some (.inl 1), h37_)))) else some (some (.inl (-1)), h31_)))) else none)) else none))) else none)) else none)))) else some (some (.inl (-1)), h11_)) else none)) else none))))))) := by
  refine (R_aload_n zf303_0 rfl zlt_97 rfl).trans ?_
  refine (R_iconst zf303_1 zw_0 rfl).trans ?_
  refine (R_putI zf303_2 zo_303 zfl_12_96 zk1_97 zft_12_0 rfl).trans ?_
  refine (R_aload_n zf303_5 rfl zlt_97 rfl).trans ?_
  refine (R_aload_n zf303_6 rfl zlt_97 rfl).trans ?_
  refine (R_getR zf303_7 zo_303 zfl_12_61 zk1_97 zft_12_32 zmr_97_32 rfl).trans ?_
  refine (R_iload_n zf303_10 rfl rfl).trans ?_
  refine (R_vcallI zf303_11 zo_303 zvl_12_342 (by rw [zr_228]; rfl) zl_228 (Nat.le_of_ble_eq_true rfl) rfl rfl (Nat.le_of_ble_eq_true rfl) (Nat.le_of_ble_eq_true rfl) (es := [.inr (.inr (.inl 97)), .inr (.inr (.inl 110)), .inl x0]) rfl rfl zk1_97 zo_228).trans ?_
  refine congrArg (cI _) (funext fun a2_ => funext fun h1_ => ?_)
  refine (R_if_eq (t := 55) zf303_14 rfl rfl).trans ?_
  refine ite_congr rfl (fun c3_ => ?_) (fun c3_ => ?_)
  · refine (R_iconst zf303_55 zw_m1 rfl).trans ?_
    exact R_ireturn_i zf303_56 zr_303
  · refine (R_aload_n zf303_17 rfl zlt_97 rfl).trans ?_
    refine (R_aload_n zf303_18 rfl zlt_97 rfl).trans ?_
    refine (R_getR zf303_19 zo_303 zfl_12_61 zk1_97 zft_12_32 zmr_97_32 rfl).trans ?_
    refine (R_iload_n zf303_22 rfl rfl).trans ?_
    refine (R_vcallI zf303_23 zo_303 zvl_12_342 (by rw [zr_228]; rfl) zl_228 (Nat.le_of_ble_eq_true rfl) rfl rfl (Nat.le_of_ble_eq_true rfl) (Nat.le_of_ble_eq_true rfl) (es := [.inr (.inr (.inl 97)), .inr (.inr (.inl 110)), .inl x1]) rfl rfl zk1_97 zo_228).trans ?_
    refine congrArg (cI _) (funext fun a5_ => funext fun h4_ => ?_)
    refine (R_if_eq (t := 55) zf303_26 rfl rfl).trans ?_
    refine ite_congr rfl (fun c6_ => ?_) (fun c6_ => ?_)
    · refine (R_iconst zf303_55 zw_m1 rfl).trans ?_
      exact R_ireturn_i zf303_56 zr_303
    · refine (R_iload_n zf303_29 rfl rfl).trans ?_
      refine (R_iload_n zf303_30 rfl rfl).trans ?_
      refine (R_icmp_eq (t := 55) zf303_31 rfl rfl).trans ?_
      refine ite_congr rfl (fun c7_ => ?_) (fun c7_ => ?_)
      · refine (R_iconst zf303_55 zw_m1 rfl).trans ?_
        exact R_ireturn_i zf303_56 zr_303
      · refine (R_aload_n zf303_34 rfl zlt_97 rfl).trans ?_
        refine (R_getR zf303_35 zo_303 zfl_12_61 zk1_97 zft_12_32 zmr_97_32 rfl).trans ?_
        refine (R_iload_n zf303_38 rfl rfl).trans ?_
        refine (R_callI zf303_39 zo_303 zsl_12_300 (by rw [zr_217]; rfl) zl_217 (Nat.le_of_ble_eq_true rfl) rfl rfl (Nat.le_of_ble_eq_true rfl) (Nat.le_of_ble_eq_true rfl) (es := [.inl x0]) rfl rfl).trans ?_
        refine congrArg (cI _) (funext fun a9_ => funext fun h8_ => ?_)
        refine (R_iald zf303_42 zk_110 rfl).trans ?_
        refine ite_congr rfl (fun c10_ => ?_) (fun _ => rfl)
        refine (R_aload_n zf303_43 rfl zlt_97 rfl).trans ?_
        refine (R_getR zf303_44 zo_303 zfl_12_61 zk1_97 zft_12_32 zmr_97_32 rfl).trans ?_
        refine (R_iload_n zf303_47 rfl rfl).trans ?_
        refine (R_callI zf303_48 zo_303 zsl_12_300 (by rw [zr_217]; rfl) zl_217 (Nat.le_of_ble_eq_true rfl) rfl rfl (Nat.le_of_ble_eq_true rfl) (Nat.le_of_ble_eq_true rfl) (es := [.inl x1]) rfl rfl).trans ?_
        refine congrArg (cI _) (funext fun a12_ => funext fun h11_ => ?_)
        refine (R_iald zf303_51 zk_110 rfl).trans ?_
        refine ite_congr rfl (fun c13_ => ?_) (fun _ => rfl)
        refine (R_icmp_ne (t := 57) zf303_52 rfl rfl).trans ?_
        refine ite_congr rfl (fun c14_ => ?_) (fun c14_ => ?_)
        · refine (R_aload_n zf303_57 rfl zlt_97 rfl).trans ?_
          refine (R_iload_n zf303_58 rfl rfl).trans ?_
          refine (R_vcallV zf303_59 zo_303 zvl_12_443 zr_264 zl_264 (Nat.le_of_ble_eq_true rfl) rfl rfl (Nat.le_of_ble_eq_true rfl) (Nat.le_of_ble_eq_true rfl) (es := [.inr (.inr (.inl 97)), .inl x0, vU, vU, vU, vU]) rfl rfl zk1_97 zo_264).trans ?_
          refine congrArg (cV _) (funext fun h15_ => ?_)
          refine (R_aload_n zf303_62 rfl zlt_97 rfl).trans ?_
          refine (R_iload_n zf303_63 rfl rfl).trans ?_
          refine (R_vcallV zf303_64 zo_303 zvl_12_443 zr_264 zl_264 (Nat.le_of_ble_eq_true rfl) rfl rfl (Nat.le_of_ble_eq_true rfl) (Nat.le_of_ble_eq_true rfl) (es := [.inr (.inr (.inl 97)), .inl x1, vU, vU, vU, vU]) rfl rfl zk1_97 zo_264).trans ?_
          refine congrArg (cV _) (funext fun h16_ => ?_)
          refine (R_aload_n zf303_67 rfl zlt_97 rfl).trans ?_
          refine (R_iload_n zf303_68 rfl rfl).trans ?_
          refine (R_aload_n zf303_69 rfl zlt_97 rfl).trans ?_
          refine (R_getR zf303_70 zo_303 zfl_12_61 zk1_97 zft_12_32 zmr_97_32 rfl).trans ?_
          refine (R_iload_n zf303_73 rfl rfl).trans ?_
          refine (R_callI zf303_74 zo_303 zsl_12_300 (by rw [zr_217]; rfl) zl_217 (Nat.le_of_ble_eq_true rfl) rfl rfl (Nat.le_of_ble_eq_true rfl) (Nat.le_of_ble_eq_true rfl) (es := [.inl x0]) rfl rfl).trans ?_
          refine congrArg (cI _) (funext fun a18_ => funext fun h17_ => ?_)
          refine (R_iald zf303_77 zk_110 rfl).trans ?_
          refine ite_congr rfl (fun c19_ => ?_) (fun _ => rfl)
          refine (R_aload_n zf303_78 rfl zlt_97 rfl).trans ?_
          refine (R_getR zf303_79 zo_303 zfl_12_61 zk1_97 zft_12_32 zmr_97_32 rfl).trans ?_
          refine (R_iload_n zf303_82 rfl rfl).trans ?_
          refine (R_callI zf303_83 zo_303 zsl_12_300 (by rw [zr_217]; rfl) zl_217 (Nat.le_of_ble_eq_true rfl) rfl rfl (Nat.le_of_ble_eq_true rfl) (Nat.le_of_ble_eq_true rfl) (es := [.inl x1]) rfl rfl).trans ?_
          refine congrArg (cI _) (funext fun a21_ => funext fun h20_ => ?_)
          refine (R_iald zf303_86 zk_110 rfl).trans ?_
          refine ite_congr rfl (fun c22_ => ?_) (fun _ => rfl)
          refine (R_vcallI zf303_87 zo_303 zvl_12_446 (by rw [zr_265]; rfl) zl_265 (Nat.le_of_ble_eq_true rfl) rfl rfl (Nat.le_of_ble_eq_true rfl) (Nat.le_of_ble_eq_true rfl) (es := [.inr (.inr (.inl 97)), .inl x0, .inl (h17_ 110 a18_.toNat), .inl (h20_ 110 a21_.toNat)]) rfl rfl zk1_97 zo_265).trans ?_
          refine congrArg (cI _) (funext fun a24_ => funext fun h23_ => ?_)
          refine (R_istore_n (ls' := [.inr (.inr (.inl 97)), .inl x0, .inl x1, .inl a24_, vU, vU]) zf303_90 (Nat.le_of_ble_eq_true rfl) rfl rfl).trans ?_
          refine (R_aload_n zf303_91 rfl zlt_97 rfl).trans ?_
          refine (R_iload_n zf303_92 rfl rfl).trans ?_
          refine (R_aload_n zf303_93 rfl zlt_97 rfl).trans ?_
          refine (R_getR zf303_94 zo_303 zfl_12_61 zk1_97 zft_12_32 zmr_97_32 rfl).trans ?_
          refine (R_iload_n zf303_97 rfl rfl).trans ?_
          refine (R_callI zf303_98 zo_303 zsl_12_300 (by rw [zr_217]; rfl) zl_217 (Nat.le_of_ble_eq_true rfl) rfl rfl (Nat.le_of_ble_eq_true rfl) (Nat.le_of_ble_eq_true rfl) (es := [.inl x1]) rfl rfl).trans ?_
          refine congrArg (cI _) (funext fun a26_ => funext fun h25_ => ?_)
          refine (R_iald zf303_101 zk_110 rfl).trans ?_
          refine ite_congr rfl (fun c27_ => ?_) (fun _ => rfl)
          refine (R_aload_n zf303_102 rfl zlt_97 rfl).trans ?_
          refine (R_getR zf303_103 zo_303 zfl_12_61 zk1_97 zft_12_32 zmr_97_32 rfl).trans ?_
          refine (R_iload_n zf303_106 rfl rfl).trans ?_
          refine (R_callI zf303_107 zo_303 zsl_12_300 (by rw [zr_217]; rfl) zl_217 (Nat.le_of_ble_eq_true rfl) rfl rfl (Nat.le_of_ble_eq_true rfl) (Nat.le_of_ble_eq_true rfl) (es := [.inl x0]) rfl rfl).trans ?_
          refine congrArg (cI _) (funext fun a29_ => funext fun h28_ => ?_)
          refine (R_iald zf303_110 zk_110 rfl).trans ?_
          refine ite_congr rfl (fun c30_ => ?_) (fun _ => rfl)
          refine (R_vcallI zf303_111 zo_303 zvl_12_446 (by rw [zr_265]; rfl) zl_265 (Nat.le_of_ble_eq_true rfl) rfl rfl (Nat.le_of_ble_eq_true rfl) (Nat.le_of_ble_eq_true rfl) (es := [.inr (.inr (.inl 97)), .inl x1, .inl (h25_ 110 a26_.toNat), .inl (h28_ 110 a29_.toNat)]) rfl rfl zk1_97 zo_265).trans ?_
          refine congrArg (cI _) (funext fun a32_ => funext fun h31_ => ?_)
          refine (R_istore (ls' := [.inr (.inr (.inl 97)), .inl x0, .inl x1, .inl a24_, .inl a32_, vU]) zf303_114 (Nat.le_of_ble_eq_true rfl) rfl rfl).trans ?_
          refine (R_iload_n zf303_116 rfl rfl).trans ?_
          refine (R_if_eq (t := 125) zf303_117 rfl rfl).trans ?_
          refine ite_congr rfl (fun c33_ => ?_) (fun c33_ => ?_)
          · refine (R_iconst zf303_125 zw_m1 rfl).trans ?_
            exact R_ireturn_i zf303_126 zr_303
          · refine (R_iload zf303_120 rfl rfl).trans ?_
            refine (R_if_ne (t := 127) zf303_122 rfl rfl).trans ?_
            refine ite_congr rfl (fun c34_ => ?_) (fun c34_ => ?_)
            · refine (R_aload_n zf303_127 rfl zlt_97 rfl).trans ?_
              refine (R_iload_n zf303_128 rfl rfl).trans ?_
              refine (R_iconst zf303_129 zw_0 rfl).trans ?_
              refine (R_vcallI zf303_130 zo_303 zvl_12_315 (by rw [zr_223]; rfl) zl_223 (Nat.le_of_ble_eq_true rfl) rfl rfl (Nat.le_of_ble_eq_true rfl) (Nat.le_of_ble_eq_true rfl) (es := [.inr (.inr (.inl 97)), .inl x0, .inl 0]) rfl rfl zk1_97 zo_223).trans ?_
              refine congrArg (cI _) (funext fun a36_ => funext fun h35_ => ?_)
              refine (R_iload_n zf303_133 rfl rfl).trans ?_
              refine (R_iadd zf303_134 rfl).trans ?_
              refine (R_aload_n zf303_135 rfl zlt_97 rfl).trans ?_
              refine (R_iload_n zf303_136 rfl rfl).trans ?_
              refine (R_iconst zf303_137 zw_0 rfl).trans ?_
              refine (R_vcallI zf303_138 zo_303 zvl_12_315 (by rw [zr_223]; rfl) zl_223 (Nat.le_of_ble_eq_true rfl) rfl rfl (Nat.le_of_ble_eq_true rfl) (Nat.le_of_ble_eq_true rfl) (es := [.inr (.inr (.inl 97)), .inl x1, .inl 0]) rfl rfl zk1_97 zo_223).trans ?_
              refine congrArg (cI _) (funext fun a38_ => funext fun h37_ => ?_)
              refine (R_isub zf303_141 rfl).trans ?_
              refine (R_iload zf303_142 rfl rfl).trans ?_
              refine (R_isub zf303_144 rfl).trans ?_
              refine (R_istore (ls' := [.inr (.inr (.inl 97)), .inl x0, .inl x1, .inl a24_, .inl a32_, .inl (wI ((wI ((wI (a36_ + a24_)) - a38_)) - a32_))]) zf303_145 (Nat.le_of_ble_eq_true rfl) rfl rfl).trans ?_
              refine (R_iload zf303_147 rfl rfl).trans ?_
              refine (R_if_le (t := 156) zf303_149 rfl rfl).trans ?_
              refine ite_congr rfl (fun c39_ => ?_) (fun c39_ => ?_)
              · refine (R_iload zf303_156 rfl rfl).trans ?_
                refine (R_if_ge (t := 165) zf303_158 rfl rfl).trans ?_
                refine ite_congr rfl (fun c40_ => ?_) (fun c40_ => ?_)
                · refine (R_iconst zf303_165 zw_0 rfl).trans ?_
                  exact R_ireturn_i zf303_166 zr_303
                · refine (R_iconst zf303_161 zw_2 rfl).trans ?_
                  refine (R_goto (t := 166) zf303_162 rfl).trans ?_
                  exact R_ireturn_i zf303_166 zr_303
              · refine (R_iconst zf303_152 zw_1 rfl).trans ?_
                refine (R_goto (t := 166) zf303_153 rfl).trans ?_
                exact R_ireturn_i zf303_166 zr_303
            · refine (R_iconst zf303_125 zw_m1 rfl).trans ?_
              exact R_ireturn_i zf303_126 zr_303
        · refine (R_iconst zf303_55 zw_m1 rfl).trans ?_
          exact R_ireturn_i zf303_56 zr_303
-- CannonPostModel.image()I at 0
theorem q304_0 (d : Nat) (h : MH) : Run (d + 1) 304 0 [.inr (.inr (.inl 97))] [] h = (if ¬ ((up h 97 0 0) 97 26) = 0 then (cV (Run d 256 0 [.inr (.inr (.inl 110)), .inr (.inr (.inl 119)), vU, vU] [] (up h 97 0 0)) fun h2_ => some (some (.inl ((up h2_ 97 51 1) 110 35)), (up h2_ 97 51 1))) else some (some (.inl (-1)), (up h 97 0 0))) := by
  refine (R_aload_n zf304_0 rfl zlt_97 rfl).trans ?_
  refine (R_iconst zf304_1 zw_0 rfl).trans ?_
  refine (R_putI zf304_2 zo_304 zfl_12_96 zk1_97 zft_12_0 rfl).trans ?_
  refine (R_aload_n zf304_5 rfl zlt_97 rfl).trans ?_
  refine (R_getI zf304_6 zo_304 zfl_12_294 zk1_97 zft_12_26 rfl).trans ?_
  refine (R_if_ne (t := 14) zf304_9 rfl rfl).trans ?_
  refine ite_congr rfl (fun c1_ => ?_) (fun c1_ => ?_)
  · refine (R_aload_n zf304_14 rfl zlt_97 rfl).trans ?_
    refine (R_getR zf304_15 zo_304 zfl_12_61 zk1_97 zft_12_32 zmr_97_32 rfl).trans ?_
    refine (R_aload_n zf304_18 rfl zlt_97 rfl).trans ?_
    refine (R_getR zf304_19 zo_304 zfl_12_93 zk1_97 zft_12_50 zmr_97_50 rfl).trans ?_
    refine (R_callV zf304_22 zo_304 zsl_12_425 zr_256 zl_256 (Nat.le_of_ble_eq_true rfl) rfl rfl (Nat.le_of_ble_eq_true rfl) (Nat.le_of_ble_eq_true rfl) (es := [.inr (.inr (.inl 110)), .inr (.inr (.inl 119)), vU, vU]) rfl rfl).trans ?_
    refine congrArg (cV _) (funext fun h2_ => ?_)
    refine (R_aload_n zf304_25 rfl zlt_97 rfl).trans ?_
    refine (R_iconst zf304_26 zw_1 rfl).trans ?_
    refine (R_putZ zf304_27 zo_304 zfl_12_312 zk1_97 zft_12_51 rfl rfl).trans ?_
    refine (R_aload_n zf304_30 rfl zlt_97 rfl).trans ?_
    refine (R_getR zf304_31 zo_304 zfl_12_61 zk1_97 zft_12_32 zmr_97_32 rfl).trans ?_
    refine (R_bipush zf304_34 zb_35 rfl).trans ?_
    refine (R_ialdc zf304_36 zk_110 (by decide) rfl rfl).trans ?_
    exact R_ireturn_i zf304_37 zr_304
  · refine (R_iconst zf304_12 zw_m1 rfl).trans ?_
    exact R_ireturn_i zf304_13 zr_304
-- CannonPostModel.back()I at 0
theorem q305_0 (d : Nat) (h : MH) : Run (d + 1) 305 0 [.inr (.inr (.inl 97))] [] h = (if ¬ ((up h 97 0 0) 97 51) = 0 then (cV (Run d 256 0 [.inr (.inr (.inl 119)), .inr (.inr (.inl 110)), vU, vU] [] (up h 97 0 0)) fun h2_ => some (some (.inl ((up h2_ 97 37 0) 110 35)), (up h2_ 97 37 0))) else some (some (.inl (-1)), (up h 97 0 0))) := by
  refine (R_aload_n zf305_0 rfl zlt_97 rfl).trans ?_
  refine (R_iconst zf305_1 zw_0 rfl).trans ?_
  refine (R_putI zf305_2 zo_305 zfl_12_96 zk1_97 zft_12_0 rfl).trans ?_
  refine (R_aload_n zf305_5 rfl zlt_97 rfl).trans ?_
  refine (R_getZ zf305_6 zo_305 zfl_12_312 zk1_97 zft_12_51 rfl).trans ?_
  refine (R_if_ne (t := 14) zf305_9 rfl rfl).trans ?_
  refine ite_congr rfl (fun c1_ => ?_) (fun c1_ => ?_)
  · refine (R_aload_n zf305_14 rfl zlt_97 rfl).trans ?_
    refine (R_getR zf305_15 zo_305 zfl_12_93 zk1_97 zft_12_50 zmr_97_50 rfl).trans ?_
    refine (R_aload_n zf305_18 rfl zlt_97 rfl).trans ?_
    refine (R_getR zf305_19 zo_305 zfl_12_61 zk1_97 zft_12_32 zmr_97_32 rfl).trans ?_
    refine (R_callV zf305_22 zo_305 zsl_12_425 zr_256 zl_256 (Nat.le_of_ble_eq_true rfl) rfl rfl (Nat.le_of_ble_eq_true rfl) (Nat.le_of_ble_eq_true rfl) (es := [.inr (.inr (.inl 119)), .inr (.inr (.inl 110)), vU, vU]) rfl rfl).trans ?_
    refine congrArg (cV _) (funext fun h2_ => ?_)
    refine (R_aload_n zf305_25 rfl zlt_97 rfl).trans ?_
    refine (R_iconst zf305_26 zw_0 rfl).trans ?_
    refine (R_putI zf305_27 zo_305 zfl_12_309 zk1_97 zft_12_37 rfl).trans ?_
    refine (R_aload_n zf305_30 rfl zlt_97 rfl).trans ?_
    refine (R_getR zf305_31 zo_305 zfl_12_61 zk1_97 zft_12_32 zmr_97_32 rfl).trans ?_
    refine (R_bipush zf305_34 zb_35 rfl).trans ?_
    refine (R_ialdc zf305_36 zk_110 (by decide) rfl rfl).trans ?_
    exact R_ireturn_i zf305_37 zr_305
  · refine (R_iconst zf305_12 zw_m1 rfl).trans ?_
    exact R_ireturn_i zf305_13 zr_305
-- CannonPostModel.count(I)I at 0
theorem q306_0 (d : Nat) (x0 : Int) (h : MH) : Run (d + 1) 306 0 [.inr (.inr (.inl 97)), .inl x0, vU, vU] [] h = (if x0 = 0 then some (some (.inl ((up h 97 0 0) 97 26)), (up h 97 0 0)) else (if x0 = 1 then some (some (.inl ((up h 97 0 0) 97 27)), (up h 97 0 0)) else (if x0 = 2 then some (some (.inl ((up h 97 0 0) 97 7)), (up h 97 0 0)) else (if x0 = 3 then some (some (.inl ((up h 97 0 0) 97 30)), (up h 97 0 0)) else (if x0 = 4 then some (some (.inl ((up h 97 0 0) 97 6)), (up h 97 0 0)) else (if x0 = 5 then some (some (.inl ((up h 97 0 0) 97 34)), (up h 97 0 0)) else (if x0 = 6 then some (some (.inl ((up h 97 0 0) 110 35)), (up h 97 0 0)) else (if x0 = 7 then Run (d + 1) 306 120 [.inr (.inr (.inl 97)), .inl x0, .inl 0, .inl 0] [] (up h 97 0 0) else (if x0 = 8 then Run (d + 1) 306 149 [.inr (.inr (.inl 97)), .inl x0, .inl 0, .inl 0] [] (up h 97 0 0) else (if x0 = 9 then some (some (.inl ((up h 97 0 0) 97 35)), (up h 97 0 0)) else (if x0 = 10 then some (some (.inl ((up h 97 0 0) 97 46)), (up h 97 0 0)) else (if x0 = 11 then some (some (.inl ((up h 97 0 0) 97 49)), (up h 97 0 0)) else (if x0 = 12 then some (some (.inl ((up h 97 0 0) 110 36)), (up h 97 0 0)) else (if x0 = 13 then some (some (.inl ((up h 97 0 0) 97 37)), (up h 97 0 0)) else some (some (.inl (-1000000)), (up h 97 0 0)))))))))))))))) := by
  refine (R_aload_n zf306_0 rfl zlt_97 rfl).trans ?_
  refine (R_iconst zf306_1 zw_0 rfl).trans ?_
  refine (R_putI zf306_2 zo_306 zfl_12_96 zk1_97 zft_12_0 rfl).trans ?_
  refine (R_iconst zf306_5 zw_0 rfl).trans ?_
  refine (R_istore_n (ls' := [.inr (.inr (.inl 97)), .inl x0, .inl 0, vU]) zf306_6 (Nat.le_of_ble_eq_true rfl) rfl rfl).trans ?_
  refine (R_iload_n zf306_7 rfl rfl).trans ?_
  refine (switch_if (c := x0 = 0) (fun c1_ => ?_) (fun c1_ => ?_))
  · refine (R_tsw (t := 80) zf306_8 (by omega) (by rw [c1_]; rfl) rfl).trans ?_
    refine (R_aload_n zf306_80 rfl zlt_97 rfl).trans ?_
    refine (R_getI zf306_81 zo_306 zfl_12_294 zk1_97 zft_12_26 rfl).trans ?_
    exact R_ireturn_i zf306_84 zr_306
  refine (switch_if (c := x0 = 1) (fun c2_ => ?_) (fun c2_ => ?_))
  · refine (R_tsw (t := 85) zf306_8 (by omega) (by rw [c2_]; rfl) rfl).trans ?_
    refine (R_aload_n zf306_85 rfl zlt_97 rfl).trans ?_
    refine (R_getI zf306_86 zo_306 zfl_12_297 zk1_97 zft_12_27 rfl).trans ?_
    exact R_ireturn_i zf306_89 zr_306
  refine (switch_if (c := x0 = 2) (fun c3_ => ?_) (fun c3_ => ?_))
  · refine (R_tsw (t := 90) zf306_8 (by omega) (by rw [c3_]; rfl) rfl).trans ?_
    refine (R_aload_n zf306_90 rfl zlt_97 rfl).trans ?_
    refine (R_getI zf306_91 zo_306 zfl_12_286 zk1_97 zft_12_7 rfl).trans ?_
    exact R_ireturn_i zf306_94 zr_306
  refine (switch_if (c := x0 = 3) (fun c4_ => ?_) (fun c4_ => ?_))
  · refine (R_tsw (t := 95) zf306_8 (by omega) (by rw [c4_]; rfl) rfl).trans ?_
    refine (R_aload_n zf306_95 rfl zlt_97 rfl).trans ?_
    refine (R_getI zf306_96 zo_306 zfl_12_289 zk1_97 zft_12_30 rfl).trans ?_
    exact R_ireturn_i zf306_99 zr_306
  refine (switch_if (c := x0 = 4) (fun c5_ => ?_) (fun c5_ => ?_))
  · refine (R_tsw (t := 100) zf306_8 (by omega) (by rw [c5_]; rfl) rfl).trans ?_
    refine (R_aload_n zf306_100 rfl zlt_97 rfl).trans ?_
    refine (R_getI zf306_101 zo_306 zfl_12_109 zk1_97 zft_12_6 rfl).trans ?_
    exact R_ireturn_i zf306_104 zr_306
  refine (switch_if (c := x0 = 5) (fun c6_ => ?_) (fun c6_ => ?_))
  · refine (R_tsw (t := 105) zf306_8 (by omega) (by rw [c6_]; rfl) rfl).trans ?_
    refine (R_aload_n zf306_105 rfl zlt_97 rfl).trans ?_
    refine (R_getI zf306_106 zo_306 zfl_12_67 zk1_97 zft_12_34 rfl).trans ?_
    exact R_ireturn_i zf306_109 zr_306
  refine (switch_if (c := x0 = 6) (fun c7_ => ?_) (fun c7_ => ?_))
  · refine (R_tsw (t := 110) zf306_8 (by omega) (by rw [c7_]; rfl) rfl).trans ?_
    refine (R_aload_n zf306_110 rfl zlt_97 rfl).trans ?_
    refine (R_getR zf306_111 zo_306 zfl_12_61 zk1_97 zft_12_32 zmr_97_32 rfl).trans ?_
    refine (R_bipush zf306_114 zb_35 rfl).trans ?_
    refine (R_ialdc zf306_116 zk_110 (by decide) rfl rfl).trans ?_
    exact R_ireturn_i zf306_117 zr_306
  refine (switch_if (c := x0 = 7) (fun c8_ => ?_) (fun c8_ => ?_))
  · refine (R_tsw (t := 118) zf306_8 (by omega) (by rw [c8_]; rfl) rfl).trans ?_
    refine (R_iconst zf306_118 zw_0 rfl).trans ?_
    refine (R_istore_n (ls' := [.inr (.inr (.inl 97)), .inl x0, .inl 0, .inl 0]) zf306_119 (Nat.le_of_ble_eq_true rfl) rfl rfl).trans ?_
    rfl
  refine (switch_if (c := x0 = 8) (fun c9_ => ?_) (fun c9_ => ?_))
  · refine (R_tsw (t := 147) zf306_8 (by omega) (by rw [c9_]; rfl) rfl).trans ?_
    refine (R_iconst zf306_147 zw_0 rfl).trans ?_
    refine (R_istore_n (ls' := [.inr (.inr (.inl 97)), .inl x0, .inl 0, .inl 0]) zf306_148 (Nat.le_of_ble_eq_true rfl) rfl rfl).trans ?_
    rfl
  refine (switch_if (c := x0 = 9) (fun c10_ => ?_) (fun c10_ => ?_))
  · refine (R_tsw (t := 179) zf306_8 (by omega) (by rw [c10_]; rfl) rfl).trans ?_
    refine (R_aload_n zf306_179 rfl zlt_97 rfl).trans ?_
    refine (R_getI zf306_180 zo_306 zfl_12_369 zk1_97 zft_12_35 rfl).trans ?_
    exact R_ireturn_i zf306_183 zr_306
  refine (switch_if (c := x0 = 10) (fun c11_ => ?_) (fun c11_ => ?_))
  · refine (R_tsw (t := 184) zf306_8 (by omega) (by rw [c11_]; rfl) rfl).trans ?_
    refine (R_aload_n zf306_184 rfl zlt_97 rfl).trans ?_
    refine (R_getI zf306_185 zo_306 zfl_12_303 zk1_97 zft_12_46 rfl).trans ?_
    exact R_ireturn_i zf306_188 zr_306
  refine (switch_if (c := x0 = 11) (fun c12_ => ?_) (fun c12_ => ?_))
  · refine (R_tsw (t := 189) zf306_8 (by omega) (by rw [c12_]; rfl) rfl).trans ?_
    refine (R_aload_n zf306_189 rfl zlt_97 rfl).trans ?_
    refine (R_getI zf306_190 zo_306 zfl_12_306 zk1_97 zft_12_49 rfl).trans ?_
    exact R_ireturn_i zf306_193 zr_306
  refine (switch_if (c := x0 = 12) (fun c13_ => ?_) (fun c13_ => ?_))
  · refine (R_tsw (t := 194) zf306_8 (by omega) (by rw [c13_]; rfl) rfl).trans ?_
    refine (R_aload_n zf306_194 rfl zlt_97 rfl).trans ?_
    refine (R_getR zf306_195 zo_306 zfl_12_61 zk1_97 zft_12_32 zmr_97_32 rfl).trans ?_
    refine (R_bipush zf306_198 zb_36 rfl).trans ?_
    refine (R_ialdc zf306_200 zk_110 (by decide) rfl rfl).trans ?_
    exact R_ireturn_i zf306_201 zr_306
  refine (switch_if (c := x0 = 13) (fun c14_ => ?_) (fun c14_ => ?_))
  · refine (R_tsw (t := 202) zf306_8 (by omega) (by rw [c14_]; rfl) rfl).trans ?_
    refine (R_aload_n zf306_202 rfl zlt_97 rfl).trans ?_
    refine (R_getI zf306_203 zo_306 zfl_12_309 zk1_97 zft_12_37 rfl).trans ?_
    exact R_ireturn_i zf306_206 zr_306
  refine (R_tswD (t := 207) zf306_8 (by omega) rfl).trans ?_
  refine (R_ldc_w zf306_207 zo_306 zcl_12_421 rfl).trans ?_
  exact R_ireturn_i zf306_210 zr_306
-- CannonPost$Tape.bytesIn(I)I at 0
theorem q1_0 (d : Nat) (x0 : Int) (h : MH) : Run d 1 0 [.inl x0, vU, vU] [] h = Run d 1 5 [.inl x0, .inl 0, .inl 24] [] h := by
  refine (R_iconst zf1_0 zw_0 rfl).trans ?_
  refine (R_istore_n (ls' := [.inl x0, .inl 0, vU]) zf1_1 (Nat.le_of_ble_eq_true rfl) rfl rfl).trans ?_
  refine (R_bipush zf1_2 zb_24 rfl).trans ?_
  refine (R_istore_n (ls' := [.inl x0, .inl 0, .inl 24]) zf1_4 (Nat.le_of_ble_eq_true rfl) rfl rfl).trans ?_
  rfl
-- CannonPost$Tape.put(I)V at 0
theorem q2_0 (d : Nat) (x0 : Int) (h : MH) : Run d 2 0 [.inr (.inr (.inl 1)), .inl x0, vU, vU] [] h = Run d 2 3 [.inr (.inr (.inl 1)), .inl x0, .inl 24, vU] [] h := by
  refine (R_bipush zf2_0 zb_24 rfl).trans ?_
  refine (R_istore_n (ls' := [.inr (.inr (.inl 1)), .inl x0, .inl 24, vU]) zf2_2 (Nat.le_of_ble_eq_true rfl) rfl rfl).trans ?_
  rfl
-- CannonPost$LeagueReader.readTape()I at 0
theorem q5_0 (d : Nat) (h : MH) : Run (d + 1) 5 0 [.inr (.inr (.inl 3))] [] h = (cI (Run d 6 0 [.inr (.inr (.inl 3)), vU] [] (up h 1 2 0)) fun a2_ h1_ => (if a2_ = 0 then some (some (.inl (h1_ 1 2)), h1_) else some (some (.inl (-1)), h1_))) := by
  refine (R_aload_n zf5_0 rfl zlt_3 rfl).trans ?_
  refine (R_getR zf5_1 zo_5 zfl_6_18 zk1_3 zft_6_1 zmr_3_1 rfl).trans ?_
  refine (R_iconst zf5_4 zw_0 rfl).trans ?_
  refine (R_putI zf5_5 zo_5 zfl_6_22 zk1_1 zft_10_2 rfl).trans ?_
  refine (R_aload_n zf5_8 rfl zlt_3 rfl).trans ?_
  refine (R_vcallI zf5_9 zo_5 zvl_6_28 (by rw [zr_6]; rfl) zl_6 (Nat.le_of_ble_eq_true rfl) rfl rfl (Nat.le_of_ble_eq_true rfl) (Nat.le_of_ble_eq_true rfl) (es := [.inr (.inr (.inl 3)), vU]) rfl rfl zk1_3 zo_6).trans ?_
  refine congrArg (cI _) (funext fun a2_ => funext fun h1_ => ?_)
  refine (R_if_eq (t := 19) zf5_12 rfl rfl).trans ?_
  refine ite_congr rfl (fun c3_ => ?_) (fun c3_ => ?_)
  · refine (R_aload_n zf5_19 rfl zlt_3 rfl).trans ?_
    refine (R_getR zf5_20 zo_5 zfl_6_18 zk1_3 zft_6_1 zmr_3_1 rfl).trans ?_
    refine (R_getI zf5_23 zo_5 zfl_6_22 zk1_1 zft_10_2 rfl).trans ?_
    exact R_ireturn_i zf5_26 zr_5
  · refine (R_iconst zf5_15 zw_m1 rfl).trans ?_
    refine (R_goto (t := 26) zf5_16 rfl).trans ?_
    exact R_ireturn_i zf5_26 zr_5
-- CannonPost$LawReader.readTape()I at 0
theorem q22_0 (d : Nat) (h : MH) : Run (d + 1) 22 0 [.inr (.inr (.inl 5)), vU] [] h = Run (d + 1) 22 15 [.inr (.inr (.inl 5)), .inl 0] [] (up (up h 1 2 0) 5 1 0) := by
  refine (R_aload_n zf22_0 rfl zlt_5 rfl).trans ?_
  refine (R_getR zf22_1 zo_22 zfl_3_17 zk1_5 zft_3_2 zmr_5_2 rfl).trans ?_
  refine (R_iconst zf22_4 zw_0 rfl).trans ?_
  refine (R_putI zf22_5 zo_22 zfl_3_21 zk1_1 zft_10_2 rfl).trans ?_
  refine (R_aload_n zf22_8 rfl zlt_5 rfl).trans ?_
  refine (R_iconst zf22_9 zw_0 rfl).trans ?_
  refine (R_putI zf22_10 zo_22 zfl_3_25 zk1_5 zft_3_1 rfl).trans ?_
  refine (R_iconst zf22_13 zw_0 rfl).trans ?_
  refine (R_istore_n (ls' := [.inr (.inr (.inl 5)), .inl 0]) zf22_14 (Nat.le_of_ble_eq_true rfl) rfl rfl).trans ?_
  rfl
-- CannonPost$Planbook.readTape()I at 0
theorem q38_0 (d : Nat) (h : MH) : Run (d + 1) 38 0 [.inr (.inr (.inl 7)), vU] [] h = Run (d + 1) 38 10 [.inr (.inr (.inl 7)), .inl 0] [] (up h 1 2 0) := by
  refine (R_aload_n zf38_0 rfl zlt_7 rfl).trans ?_
  refine (R_getR zf38_1 zo_38 zfl_8_23 zk1_7 zft_8_5 zmr_7_5 rfl).trans ?_
  refine (R_iconst zf38_4 zw_0 rfl).trans ?_
  refine (R_putI zf38_5 zo_38 zfl_8_44 zk1_1 zft_10_2 rfl).trans ?_
  refine (R_iconst zf38_8 zw_0 rfl).trans ?_
  refine (R_istore_n (ls' := [.inr (.inr (.inl 7)), .inl 0]) zf38_9 (Nat.le_of_ble_eq_true rfl) rfl rfl).trans ?_
  rfl
-- CannonPost.text(I)I at 27
theorem q44_27 (d : Nat) (x0 : Int) (h : MH) : Run (d + 1) 44 27 [.inr (.inr (.inl 0)), .inl x0] [] h = (if ¬ x0 = 1 then Run (d + 1) 44 83 [.inr (.inr (.inl 0)), .inl x0] [] h else (cI (Run d 56 0 [.inr (.inr (.inl 6))] [] h) fun a3_ h2_ => (if a3_ = 0 then Run (d + 1) 44 83 [.inr (.inr (.inl 0)), .inl x0] [] h2_ else (cI (Run d 22 0 [.inr (.inr (.inl 5)), vU] [] h2_) fun a6_ h5_ => (if ¬ a6_ = (-1) then Run (d + 1) 44 83 [.inr (.inr (.inl 0)), .inl x0] [] h5_ else (cI (Run d 57 0 [.inr (.inr (.inl 6)), .inr (.inr (.inl 22)), .inl ((up h5_ 1 1 0) 5 1)] [] (up h5_ 1 1 0)) fun a9_ h8_ => some (some (.inl a9_), h8_))))))) := by
  refine (R_iload_n zf44_27 rfl rfl).trans ?_
  refine (R_iconst zf44_28 zw_1 rfl).trans ?_
  refine (R_icmp_ne (t := 83) zf44_29 rfl rfl).trans ?_
  refine ite_congr rfl (fun c1_ => ?_) (fun c1_ => ?_)
  · rfl
  · refine (R_aload_n zf44_32 rfl zlt_0 rfl).trans ?_
    refine (R_getR zf44_33 zo_44 zfl_11_42 zk1_0 zft_11_4 zmr_0_4 rfl).trans ?_
    refine (R_vcallI zf44_36 zo_44 zvl_11_122 (by rw [zr_56]; rfl) zl_56 (Nat.le_of_ble_eq_true rfl) rfl rfl (Nat.le_of_ble_eq_true rfl) (Nat.le_of_ble_eq_true rfl) (es := [.inr (.inr (.inl 6))]) rfl rfl zk1_6 zo_56).trans ?_
    refine congrArg (cI _) (funext fun a3_ => funext fun h2_ => ?_)
    refine (R_if_eq (t := 83) zf44_39 rfl rfl).trans ?_
    refine ite_congr rfl (fun c4_ => ?_) (fun c4_ => ?_)
    · rfl
    · refine (R_aload_n zf44_42 rfl zlt_0 rfl).trans ?_
      refine (R_getR zf44_43 zo_44 zfl_11_35 zk1_0 zft_11_3 zmr_0_3 rfl).trans ?_
      refine (R_vcallI zf44_46 zo_44 zvl_11_114 (by rw [zr_22]; rfl) zl_22 (Nat.le_of_ble_eq_true rfl) rfl rfl (Nat.le_of_ble_eq_true rfl) (Nat.le_of_ble_eq_true rfl) (es := [.inr (.inr (.inl 5)), vU]) rfl rfl zk1_5 zo_22).trans ?_
      refine congrArg (cI _) (funext fun a6_ => funext fun h5_ => ?_)
      refine (R_iconst zf44_49 zw_m1 rfl).trans ?_
      refine (R_icmp_ne (t := 83) zf44_50 rfl rfl).trans ?_
      refine ite_congr rfl (fun c7_ => ?_) (fun c7_ => ?_)
      · rfl
      · refine (R_aload_n zf44_53 rfl zlt_0 rfl).trans ?_
        refine (R_getR zf44_54 zo_44 zfl_11_10 zk1_0 zft_11_0 zmr_0_0 rfl).trans ?_
        refine (R_iconst zf44_57 zw_0 rfl).trans ?_
        refine (R_putI zf44_58 zo_44 zfl_11_102 zk1_1 zft_10_1 rfl).trans ?_
        refine (R_aload_n zf44_61 rfl zlt_0 rfl).trans ?_
        refine (R_getR zf44_62 zo_44 zfl_11_42 zk1_0 zft_11_4 zmr_0_4 rfl).trans ?_
        refine (R_aload_n zf44_65 rfl zlt_0 rfl).trans ?_
        refine (R_getR zf44_66 zo_44 zfl_11_35 zk1_0 zft_11_3 zmr_0_3 rfl).trans ?_
        refine (R_getR zf44_69 zo_44 zfl_11_126 zk1_5 zft_3_0 zmr_5_0 rfl).trans ?_
        refine (R_aload_n zf44_72 rfl zlt_0 rfl).trans ?_
        refine (R_getR zf44_73 zo_44 zfl_11_35 zk1_0 zft_11_3 zmr_0_3 rfl).trans ?_
        refine (R_getI zf44_76 zo_44 zfl_11_130 zk1_5 zft_3_1 rfl).trans ?_
        refine (R_vcallI zf44_79 zo_44 zvl_11_133 (by rw [zr_57]; rfl) zl_57 (Nat.le_of_ble_eq_true rfl) rfl rfl (Nat.le_of_ble_eq_true rfl) (Nat.le_of_ble_eq_true rfl) (es := [.inr (.inr (.inl 6)), .inr (.inr (.inl 22)), .inl ((up h5_ 1 1 0) 5 1)]) rfl rfl zk1_6 zo_57).trans ?_
        refine congrArg (cI _) (funext fun a9_ => funext fun h8_ => ?_)
        exact R_ireturn_i zf44_82 zr_44
-- CannonPost.beginLeague()V at 0
theorem q45_0 (d : Nat) (h : MH) : Run (d + 1) 45 0 [.inr (.inr (.inl 0))] [] h = (cV (Run d 46 0 [.inr (.inr (.inl 2)), .inr (.inr (.inl 4))] [] (up h 1 1 0)) fun h1_ => (cV (Run d 47 0 [.inr (.inr (.inl 12)), .inr (.inr (.inl 2)), vU] [] h1_) fun h2_ => (cV (Run d 53 0 [.inr (.inr (.inl 11))] [] h2_) fun h3_ => (cV (Run d 54 0 [.inr (.inr (.inl 10))] [] h3_) fun h4_ => (cV (Run d 55 0 [.inr (.inr (.inl 8))] [] h4_) fun h5_ => some (none, (up h5_ 0 13 0))))))) := by
  refine (R_aload_n zf45_0 rfl zlt_0 rfl).trans ?_
  refine (R_getR zf45_1 zo_45 zfl_11_10 zk1_0 zft_11_0 zmr_0_0 rfl).trans ?_
  refine (R_iconst zf45_4 zw_0 rfl).trans ?_
  refine (R_putI zf45_5 zo_45 zfl_11_102 zk1_1 zft_10_1 rfl).trans ?_
  refine (R_aload_n zf45_8 rfl zlt_0 rfl).trans ?_
  refine (R_getR zf45_9 zo_45 zfl_11_19 zk1_0 zft_11_1 zmr_0_1 rfl).trans ?_
  refine (R_aload_n zf45_12 rfl zlt_0 rfl).trans ?_
  refine (R_getR zf45_13 zo_45 zfl_11_28 zk1_0 zft_11_2 zmr_0_2 rfl).trans ?_
  refine (R_getR zf45_16 zo_45 zfl_11_140 zk1_3 zft_6_0 zmr_3_0 rfl).trans ?_
  refine (R_vcallV zf45_19 zo_45 zvl_11_143 zr_46 zl_46 (Nat.le_of_ble_eq_true rfl) rfl rfl (Nat.le_of_ble_eq_true rfl) (Nat.le_of_ble_eq_true rfl) (es := [.inr (.inr (.inl 2)), .inr (.inr (.inl 4))]) rfl rfl zk1_2 zo_46).trans ?_
  refine congrArg (cV _) (funext fun h1_ => ?_)
  refine (R_aload_n zf45_22 rfl zlt_0 rfl).trans ?_
  refine (R_getR zf45_23 zo_45 zfl_11_88 zk1_0 zft_11_10 zmr_0_10 rfl).trans ?_
  refine (R_aload_n zf45_26 rfl zlt_0 rfl).trans ?_
  refine (R_getR zf45_27 zo_45 zfl_11_19 zk1_0 zft_11_1 zmr_0_1 rfl).trans ?_
  refine (R_vcallV zf45_30 zo_45 zvl_11_147 zr_47 zl_47 (Nat.le_of_ble_eq_true rfl) rfl rfl (Nat.le_of_ble_eq_true rfl) (Nat.le_of_ble_eq_true rfl) (es := [.inr (.inr (.inl 12)), .inr (.inr (.inl 2)), vU]) rfl rfl zk1_12 zo_47).trans ?_
  refine congrArg (cV _) (funext fun h2_ => ?_)
  refine (R_aload_n zf45_33 rfl zlt_0 rfl).trans ?_
  refine (R_getR zf45_34 zo_45 zfl_11_81 zk1_0 zft_11_9 zmr_0_9 rfl).trans ?_
  refine (R_vcallV zf45_37 zo_45 zvl_11_150 zr_53 zl_53 (Nat.le_of_ble_eq_true rfl) rfl rfl (Nat.le_of_ble_eq_true rfl) (Nat.le_of_ble_eq_true rfl) (es := [.inr (.inr (.inl 11))]) rfl rfl zk1_11 zo_53).trans ?_
  refine congrArg (cV _) (funext fun h3_ => ?_)
  refine (R_aload_n zf45_40 rfl zlt_0 rfl).trans ?_
  refine (R_getR zf45_41 zo_45 zfl_11_74 zk1_0 zft_11_8 zmr_0_8 rfl).trans ?_
  refine (R_vcallV zf45_44 zo_45 zvl_11_153 zr_54 zl_54 (Nat.le_of_ble_eq_true rfl) rfl rfl (Nat.le_of_ble_eq_true rfl) (Nat.le_of_ble_eq_true rfl) (es := [.inr (.inr (.inl 10))]) rfl rfl zk1_10 zo_54).trans ?_
  refine congrArg (cV _) (funext fun h4_ => ?_)
  refine (R_aload_n zf45_47 rfl zlt_0 rfl).trans ?_
  refine (R_getR zf45_48 zo_45 zfl_11_58 zk1_0 zft_11_6 zmr_0_6 rfl).trans ?_
  refine (R_vcallV zf45_51 zo_45 zvl_11_154 zr_55 zl_55 (Nat.le_of_ble_eq_true rfl) rfl rfl (Nat.le_of_ble_eq_true rfl) (Nat.le_of_ble_eq_true rfl) (es := [.inr (.inr (.inl 8))]) rfl rfl zk1_8 zo_55).trans ?_
  refine congrArg (cV _) (funext fun h5_ => ?_)
  refine (R_aload_n zf45_54 rfl zlt_0 rfl).trans ?_
  refine (R_iconst zf45_55 zw_0 rfl).trans ?_
  refine (R_putZ zf45_56 zo_45 zfl_11_155 zk1_0 zft_11_13 rfl rfl).trans ?_
  exact R_return zf45_59 zr_45
-- CannonPost$League.isTold()Z at 0
theorem q61_0 (d : Nat) (h : MH) : Run d 61 0 [.inr (.inr (.inl 2))] [] h = (if (h 2 3) ≤ 0 then some (some (.inl 0), h) else some (some (.inl 1), h)) := by
  refine (R_aload_n zf61_0 rfl zlt_2 rfl).trans ?_
  refine (R_getI zf61_1 zo_61 zfl_5_27 zk1_2 zft_5_3 rfl).trans ?_
  refine (R_if_le (t := 11) zf61_4 rfl rfl).trans ?_
  refine ite_congr rfl (fun c1_ => ?_) (fun c1_ => ?_)
  · refine (R_iconst zf61_11 zw_0 rfl).trans ?_
    exact R_ireturn zf61_12 (by rw [zr_61]; rfl)
  · refine (R_iconst zf61_7 zw_1 rfl).trans ?_
    refine (R_goto (t := 12) zf61_8 rfl).trans ?_
    exact R_ireturn zf61_12 (by rw [zr_61]; rfl)
-- CannonPost$League.breath()I at 0
theorem q62_0 (d : Nat) (h : MH) : Run d 62 0 [.inr (.inr (.inl 2))] [] h = some (some (.inl (h 16 3)), h) := by
  refine (R_aload_n zf62_0 rfl zlt_2 rfl).trans ?_
  refine (R_getR zf62_1 zo_62 zfl_5_11 zk1_2 zft_5_0 zmr_2_0 rfl).trans ?_
  refine (R_iconst zf62_4 zw_3 rfl).trans ?_
  refine (R_ialdc zf62_5 zk_16 (by decide) rfl rfl).trans ?_
  exact R_ireturn_i zf62_6 zr_62
-- CannonPost$League.hasFort(I)Z at 0
theorem q20_0 (d : Nat) (x0 : Int) (h : MH) : Run d 20 0 [.inr (.inr (.inl 2)), .inl x0] [] h = (if x0 < 0 then some (some (.inl 0), h) else (if (h 2 3) ≤ x0 then some (some (.inl 0), h) else some (some (.inl 1), h))) := by
  refine (R_iload_n zf20_0 rfl rfl).trans ?_
  refine (R_if_lt (t := 16) zf20_1 rfl rfl).trans ?_
  refine ite_congr rfl (fun c1_ => ?_) (fun c1_ => ?_)
  · refine (R_iconst zf20_16 zw_0 rfl).trans ?_
    exact R_ireturn zf20_17 (by rw [zr_20]; rfl)
  · refine (R_iload_n zf20_4 rfl rfl).trans ?_
    refine (R_aload_n zf20_5 rfl zlt_2 rfl).trans ?_
    refine (R_getI zf20_6 zo_20 zfl_5_27 zk1_2 zft_5_3 rfl).trans ?_
    refine (R_icmp_ge (t := 16) zf20_9 rfl rfl).trans ?_
    refine ite_congr rfl (fun c2_ => ?_) (fun c2_ => ?_)
    · refine (R_iconst zf20_16 zw_0 rfl).trans ?_
      exact R_ireturn zf20_17 (by rw [zr_20]; rfl)
    · refine (R_iconst zf20_12 zw_1 rfl).trans ?_
      refine (R_goto (t := 17) zf20_13 rfl).trans ?_
      exact R_ireturn zf20_17 (by rw [zr_20]; rfl)
-- CannonPost$League.place(I)I at 0
theorem q18_0 (d : Nat) (x0 : Int) (h : MH) : Run d 18 0 [.inr (.inr (.inl 2)), .inl x0] [] h = (if 0 ≤ (wI (x0 * 3)) ∧ (wI (x0 * 3)) < 24 then some (some (.inl (h 17 (wI (x0 * 3)).toNat)), h) else none) := by
  refine (R_aload_n zf18_0 rfl zlt_2 rfl).trans ?_
  refine (R_getR zf18_1 zo_18 zfl_5_15 zk1_2 zft_5_1 zmr_2_1 rfl).trans ?_
  refine (R_iload_n zf18_4 rfl rfl).trans ?_
  refine (R_iconst zf18_5 zw_3 rfl).trans ?_
  refine (R_imul zf18_6 rfl).trans ?_
  refine (R_iald zf18_7 zk_17 rfl).trans ?_
  refine ite_congr rfl (fun c1_ => ?_) (fun _ => rfl)
  exact R_ireturn_i zf18_8 zr_18
-- CannonPost$League.height(I)I at 0
theorem q64_0 (d : Nat) (x0 : Int) (h : MH) : Run d 64 0 [.inr (.inr (.inl 2)), .inl x0] [] h = (if 0 ≤ (wI ((wI (x0 * 3)) + 1)) ∧ (wI ((wI (x0 * 3)) + 1)) < 24 then some (some (.inl (h 17 (wI ((wI (x0 * 3)) + 1)).toNat)), h) else none) := by
  refine (R_aload_n zf64_0 rfl zlt_2 rfl).trans ?_
  refine (R_getR zf64_1 zo_64 zfl_5_15 zk1_2 zft_5_1 zmr_2_1 rfl).trans ?_
  refine (R_iload_n zf64_4 rfl rfl).trans ?_
  refine (R_iconst zf64_5 zw_3 rfl).trans ?_
  refine (R_imul zf64_6 rfl).trans ?_
  refine (R_iconst zf64_7 zw_1 rfl).trans ?_
  refine (R_iadd zf64_8 rfl).trans ?_
  refine (R_iald zf64_9 zk_17 rfl).trans ?_
  refine ite_congr rfl (fun c1_ => ?_) (fun _ => rfl)
  exact R_ireturn_i zf64_10 zr_64
-- CannonPost$State.sumOf(II)I at 0
theorem q68_0 (d : Nat) (x0 : Int) (x1 : Int) (h : MH) : Run d 68 0 [.inr (.inr (.inl 12)), .inl x0, .inl x1, vU, vU] [] h = Run d 68 5 [.inr (.inr (.inl 12)), .inl x0, .inl x1, .inl 0, .inl 0] [] h := by
  refine (R_iconst zf68_0 zw_0 rfl).trans ?_
  refine (R_istore_n (ls' := [.inr (.inr (.inl 12)), .inl x0, .inl x1, .inl 0, vU]) zf68_1 (Nat.le_of_ble_eq_true rfl) rfl rfl).trans ?_
  refine (R_iconst zf68_2 zw_0 rfl).trans ?_
  refine (R_istore (ls' := [.inr (.inr (.inl 12)), .inl x0, .inl x1, .inl 0, .inl 0]) zf68_3 (Nat.le_of_ble_eq_true rfl) rfl rfl).trans ?_
  rfl
-- CannonPost$State.logLength()I at 0
theorem q69_0 (d : Nat) (h : MH) : Run d 69 0 [.inr (.inr (.inl 12))] [] h = some (some (.inl (mn 60 (h 91 5))), h) := by
  refine (R_bipush zf69_0 zb_60 rfl).trans ?_
  refine (R_aload_n zf69_2 rfl zlt_12 rfl).trans ?_
  refine (R_getR zf69_3 zo_69 zfl_9_15 zk1_12 zft_9_0 zmr_12_0 rfl).trans ?_
  refine (R_iconst zf69_6 zw_5 rfl).trans ?_
  refine (R_ialdc zf69_7 zk_91 (by decide) rfl rfl).trans ?_
  refine (R_mmin zf69_8 zo_69 zsl_9_64 zml_9_64 zna_9_64 (Nat.le_of_ble_eq_true rfl) rfl).trans ?_
  exact R_ireturn_i zf69_11 zr_69
-- CannonPost.canFire(LCannonPost$State;II)Z at 0
theorem q71_0 (d : Nat) (x0 : Int) (x1 : Int) (h : MH) : Run (d + 1) 71 0 [.inr (.inr (.inl 0)), .inr (.inr (.inl 12)), .inl x0, .inl x1] [] h = (cI (Run d 72 0 [.inr (.inr (.inl 2)), .inl x0] [] h) fun a2_ h1_ => (if a2_ = 0 then some (some (.inl 0), h1_) else (if 0 ≤ (wI (16 + x0)) ∧ (wI (16 + x0)) < 37 then (if ¬ (h1_ 91 (wI (16 + x0)).toNat) = 0 then some (some (.inl 0), h1_) else (cI (Run d 73 0 [.inl x1] [] h1_) fun a7_ h6_ => (if a7_ = 0 then some (some (.inl 0), h6_) else (if (h6_ 91 0) < x1 then some (some (.inl 0), h6_) else some (some (.inl 1), h6_))))) else none))) := by
  refine (R_aload_n zf71_0 rfl zlt_0 rfl).trans ?_
  refine (R_getR zf71_1 zo_71 zfl_11_19 zk1_0 zft_11_1 zmr_0_1 rfl).trans ?_
  refine (R_iload_n zf71_4 rfl rfl).trans ?_
  refine (R_vcallI zf71_5 zo_71 zvl_11_178 (by rw [zr_72]; rfl) zl_72 (Nat.le_of_ble_eq_true rfl) rfl rfl (Nat.le_of_ble_eq_true rfl) (Nat.le_of_ble_eq_true rfl) (es := [.inr (.inr (.inl 2)), .inl x0]) rfl rfl zk1_2 zo_72).trans ?_
  refine congrArg (cI _) (funext fun a2_ => funext fun h1_ => ?_)
  refine (R_if_eq (t := 44) zf71_8 rfl rfl).trans ?_
  refine ite_congr rfl (fun c3_ => ?_) (fun c3_ => ?_)
  · refine (R_iconst zf71_44 zw_0 rfl).trans ?_
    exact R_ireturn zf71_45 (by rw [zr_71]; rfl)
  · refine (R_aload_n zf71_11 rfl zlt_12 rfl).trans ?_
    refine (R_getR zf71_12 zo_71 zfl_11_162 zk1_12 zft_9_0 zmr_12_0 rfl).trans ?_
    refine (R_bipush zf71_15 zb_16 rfl).trans ?_
    refine (R_iload_n zf71_17 rfl rfl).trans ?_
    refine (R_iadd zf71_18 rfl).trans ?_
    refine (R_iald zf71_19 zk_91 rfl).trans ?_
    refine ite_congr rfl (fun c4_ => ?_) (fun _ => rfl)
    refine (R_if_ne (t := 44) zf71_20 rfl rfl).trans ?_
    refine ite_congr rfl (fun c5_ => ?_) (fun c5_ => ?_)
    · refine (R_iconst zf71_44 zw_0 rfl).trans ?_
      exact R_ireturn zf71_45 (by rw [zr_71]; rfl)
    · refine (R_iload_n zf71_23 rfl rfl).trans ?_
      refine (R_callI zf71_24 zo_71 zsl_11_268 (by rw [zr_73]; rfl) zl_73 (Nat.le_of_ble_eq_true rfl) rfl rfl (Nat.le_of_ble_eq_true rfl) (Nat.le_of_ble_eq_true rfl) (es := [.inl x1]) rfl rfl).trans ?_
      refine congrArg (cI _) (funext fun a7_ => funext fun h6_ => ?_)
      refine (R_if_eq (t := 44) zf71_27 rfl rfl).trans ?_
      refine ite_congr rfl (fun c8_ => ?_) (fun c8_ => ?_)
      · refine (R_iconst zf71_44 zw_0 rfl).trans ?_
        exact R_ireturn zf71_45 (by rw [zr_71]; rfl)
      · refine (R_iload_n zf71_30 rfl rfl).trans ?_
        refine (R_aload_n zf71_31 rfl zlt_12 rfl).trans ?_
        refine (R_getR zf71_32 zo_71 zfl_11_162 zk1_12 zft_9_0 zmr_12_0 rfl).trans ?_
        refine (R_iconst zf71_35 zw_0 rfl).trans ?_
        refine (R_ialdc zf71_36 zk_91 (by decide) rfl rfl).trans ?_
        refine (R_icmp_gt (t := 44) zf71_37 rfl rfl).trans ?_
        refine ite_congr rfl (fun c9_ => ?_) (fun c9_ => ?_)
        · refine (R_iconst zf71_44 zw_0 rfl).trans ?_
          exact R_ireturn zf71_45 (by rw [zr_71]; rfl)
        · refine (R_iconst zf71_40 zw_1 rfl).trans ?_
          refine (R_goto (t := 45) zf71_41 rfl).trans ?_
          exact R_ireturn zf71_45 (by rw [zr_71]; rfl)
-- CannonPost.isWay(I)Z at 0
theorem q74_0 (d : Nat) (x0 : Int) (h : MH) : Run d 74 0 [.inl x0] [] h = (if x0 = 0 then some (some (.inl 1), h) else (if ¬ x0 = 1 then some (some (.inl 0), h) else some (some (.inl 1), h))) := by
  refine (R_iload_n zf74_0 rfl rfl).trans ?_
  refine (R_if_eq (t := 9) zf74_1 rfl rfl).trans ?_
  refine ite_congr rfl (fun c1_ => ?_) (fun c1_ => ?_)
  · refine (R_iconst zf74_9 zw_1 rfl).trans ?_
    refine (R_goto (t := 14) zf74_10 rfl).trans ?_
    exact R_ireturn zf74_14 (by rw [zr_74]; rfl)
  · refine (R_iload_n zf74_4 rfl rfl).trans ?_
    refine (R_iconst zf74_5 zw_1 rfl).trans ?_
    refine (R_icmp_ne (t := 13) zf74_6 rfl rfl).trans ?_
    refine ite_congr rfl (fun c2_ => ?_) (fun c2_ => ?_)
    · refine (R_iconst zf74_13 zw_0 rfl).trans ?_
      exact R_ireturn zf74_14 (by rw [zr_74]; rfl)
    · refine (R_iconst zf74_9 zw_1 rfl).trans ?_
      refine (R_goto (t := 14) zf74_10 rfl).trans ?_
      exact R_ireturn zf74_14 (by rw [zr_74]; rfl)
-- CannonPost.canSay(II)Z at 0
theorem q75_0 (d : Nat) (x0 : Int) (x1 : Int) (h : MH) : Run (d + 1) 75 0 [.inr (.inr (.inl 0)), .inl x0, .inl x1, vU] [] h = (if 0 ≤ (wI (6 + x0)) ∧ (wI (6 + x0)) < 37 then (if 0 ≤ (wI (29 + (h 91 (wI (6 + x0)).toNat))) ∧ (wI (29 + (h 91 (wI (6 + x0)).toNat))) < 37 then (if x1 < 0 then some (some (.inl 0), h) else (if 63 < x1 then some (some (.inl 0), h) else (if ¬ (iAnd x1 (iXor (h 91 (wI (29 + (h 91 (wI (6 + x0)).toNat))).toNat) (-1))) = 0 then some (some (.inl 0), h) else (cI (Run d 76 0 [.inl x1] [] h) fun a7_ h6_ => (cI (Run d 62 0 [.inr (.inr (.inl 2))] [] h6_) fun a9_ h8_ => (if a9_ < a7_ then some (some (.inl 0), h8_) else some (some (.inl 1), h8_))))))) else none) else none) := by
  refine (R_aload_n zf75_0 rfl zlt_0 rfl).trans ?_
  refine (R_getR zf75_1 zo_75 zfl_11_88 zk1_0 zft_11_10 zmr_0_10 rfl).trans ?_
  refine (R_getR zf75_4 zo_75 zfl_11_162 zk1_12 zft_9_0 zmr_12_0 rfl).trans ?_
  refine (R_bipush zf75_7 zb_29 rfl).trans ?_
  refine (R_aload_n zf75_9 rfl zlt_0 rfl).trans ?_
  refine (R_getR zf75_10 zo_75 zfl_11_88 zk1_0 zft_11_10 zmr_0_10 rfl).trans ?_
  refine (R_getR zf75_13 zo_75 zfl_11_162 zk1_12 zft_9_0 zmr_12_0 rfl).trans ?_
  refine (R_bipush zf75_16 zb_6 rfl).trans ?_
  refine (R_iload_n zf75_18 rfl rfl).trans ?_
  refine (R_iadd zf75_19 rfl).trans ?_
  refine (R_iald zf75_20 zk_91 rfl).trans ?_
  refine ite_congr rfl (fun c1_ => ?_) (fun _ => rfl)
  refine (R_iadd zf75_21 rfl).trans ?_
  refine (R_iald zf75_22 zk_91 rfl).trans ?_
  refine ite_congr rfl (fun c2_ => ?_) (fun _ => rfl)
  refine (R_istore_n (ls' := [.inr (.inr (.inl 0)), .inl x0, .inl x1, .inl (h 91 (wI (29 + (h 91 (wI (6 + x0)).toNat))).toNat)]) zf75_23 (Nat.le_of_ble_eq_true rfl) rfl rfl).trans ?_
  refine (R_iload_n zf75_24 rfl rfl).trans ?_
  refine (R_if_lt (t := 60) zf75_25 rfl rfl).trans ?_
  refine ite_congr rfl (fun c3_ => ?_) (fun c3_ => ?_)
  · refine (R_iconst zf75_60 zw_0 rfl).trans ?_
    exact R_ireturn zf75_61 (by rw [zr_75]; rfl)
  · refine (R_iload_n zf75_28 rfl rfl).trans ?_
    refine (R_bipush zf75_29 zb_63 rfl).trans ?_
    refine (R_icmp_gt (t := 60) zf75_31 rfl rfl).trans ?_
    refine ite_congr rfl (fun c4_ => ?_) (fun c4_ => ?_)
    · refine (R_iconst zf75_60 zw_0 rfl).trans ?_
      exact R_ireturn zf75_61 (by rw [zr_75]; rfl)
    · refine (R_iload_n zf75_34 rfl rfl).trans ?_
      refine (R_iload_n zf75_35 rfl rfl).trans ?_
      refine (R_iconst zf75_36 zw_m1 rfl).trans ?_
      refine (R_ixor zf75_37 rfl).trans ?_
      refine (R_iand zf75_38 rfl).trans ?_
      refine (R_if_ne (t := 60) zf75_39 rfl rfl).trans ?_
      refine ite_congr rfl (fun c5_ => ?_) (fun c5_ => ?_)
      · refine (R_iconst zf75_60 zw_0 rfl).trans ?_
        exact R_ireturn zf75_61 (by rw [zr_75]; rfl)
      · refine (R_iload_n zf75_42 rfl rfl).trans ?_
        refine (R_callI zf75_43 zo_75 zsl_11_271 (by rw [zr_76]; rfl) zl_76 (Nat.le_of_ble_eq_true rfl) rfl rfl (Nat.le_of_ble_eq_true rfl) (Nat.le_of_ble_eq_true rfl) (es := [.inl x1]) rfl rfl).trans ?_
        refine congrArg (cI _) (funext fun a7_ => funext fun h6_ => ?_)
        refine (R_aload_n zf75_46 rfl zlt_0 rfl).trans ?_
        refine (R_getR zf75_47 zo_75 zfl_11_19 zk1_0 zft_11_1 zmr_0_1 rfl).trans ?_
        refine (R_vcallI zf75_50 zo_75 zvl_11_165 (by rw [zr_62]; rfl) zl_62 (Nat.le_of_ble_eq_true rfl) rfl rfl (Nat.le_of_ble_eq_true rfl) (Nat.le_of_ble_eq_true rfl) (es := [.inr (.inr (.inl 2))]) rfl rfl zk1_2 zo_62).trans ?_
        refine congrArg (cI _) (funext fun a9_ => funext fun h8_ => ?_)
        refine (R_icmp_gt (t := 60) zf75_53 rfl rfl).trans ?_
        refine ite_congr rfl (fun c10_ => ?_) (fun c10_ => ?_)
        · refine (R_iconst zf75_60 zw_0 rfl).trans ?_
          exact R_ireturn zf75_61 (by rw [zr_75]; rfl)
        · refine (R_iconst zf75_56 zw_1 rfl).trans ?_
          refine (R_goto (t := 61) zf75_57 rfl).trans ?_
          exact R_ireturn zf75_61 (by rw [zr_75]; rfl)
-- CannonPost$History.keep(LCannonPost$State;)V at 0
theorem q77_0 (d : Nat) (h : MH) : Run d 77 0 [.inr (.inr (.inl 11)), .inr (.inr (.inl 12))] [] h = (if 0 ≤ (h 11 2) ∧ (h 11 2) < 40 then some (none, (up (up (cpy h (h 91) (51 + (h 11 2).toNat) 0 0 37) 11 2 ((wI (((cpy h (h 91) (51 + (h 11 2).toNat) 0 0 37) 11 2) + 1)).tmod 40)) 11 0 (mn 40 (wI (((up (cpy h (h 91) (51 + (h 11 2).toNat) 0 0 37) 11 2 ((wI (((cpy h (h 91) (51 + (h 11 2).toNat) 0 0 37) 11 2) + 1)).tmod 40)) 11 0) + 1))))) else none) := by
  refine (R_aload_n zf77_0 rfl zlt_12 rfl).trans ?_
  refine (R_getR zf77_1 zo_77 zfl_2_16 zk1_12 zft_9_0 zmr_12_0 rfl).trans ?_
  refine (R_iconst zf77_4 zw_0 rfl).trans ?_
  refine (R_aload_n zf77_5 rfl zlt_11 rfl).trans ?_
  refine (R_getR zf77_6 zo_77 zfl_2_13 zk1_11 zft_2_1 zmr_11_1 rfl).trans ?_
  refine (R_aload_n zf77_9 rfl zlt_11 rfl).trans ?_
  refine (R_getI zf77_10 zo_77 zfl_2_20 zk1_11 zft_2_2 rfl).trans ?_
  refine (R_aald zf77_13 zk_50 zmr_50_0 rfl).trans ?_
  refine ite_congr rfl (fun c1_ => ?_) (fun _ => rfl)
  refine (R_iconst zf77_14 zw_0 rfl).trans ?_
  refine (R_bipush zf77_15 zb_37 rfl).trans ?_
  refine ((R_acpy zf77_17 zo_77 zsl_2_24 zal_2_24 zk_91 (zgrid_51 _ (by omega)) (Nat.le_of_ble_eq_true rfl) rfl).trans (if_pos (by decide))).trans ?_
  refine (R_aload_n zf77_20 rfl zlt_11 rfl).trans ?_
  refine (R_aload_n zf77_21 rfl zlt_11 rfl).trans ?_
  refine (R_getI zf77_22 zo_77 zfl_2_20 zk1_11 zft_2_2 rfl).trans ?_
  refine (R_iconst zf77_25 zw_1 rfl).trans ?_
  refine (R_iadd zf77_26 rfl).trans ?_
  refine (R_bipush zf77_27 zb_40 rfl).trans ?_
  refine (R_irem zf77_29 (by decide) rfl).trans ?_
  refine (R_putI zf77_30 zo_77 zfl_2_20 zk1_11 zft_2_2 rfl).trans ?_
  refine (R_aload_n zf77_33 rfl zlt_11 rfl).trans ?_
  refine (R_bipush zf77_34 zb_40 rfl).trans ?_
  refine (R_aload_n zf77_36 rfl zlt_11 rfl).trans ?_
  refine (R_getI zf77_37 zo_77 zfl_2_30 zk1_11 zft_2_0 rfl).trans ?_
  refine (R_iconst zf77_40 zw_1 rfl).trans ?_
  refine (R_iadd zf77_41 rfl).trans ?_
  refine (R_mmin zf77_42 zo_77 zsl_2_33 zml_2_33 zna_2_33 (Nat.le_of_ble_eq_true rfl) rfl).trans ?_
  refine (R_putI zf77_45 zo_77 zfl_2_30 zk1_11 zft_2_0 rfl).trans ?_
  exact R_return zf77_48 zr_77
-- CannonPost.fire(LCannonPost$State;IIII)I at 0
theorem q78_0 (d : Nat) (x0 : Int) (x1 : Int) (x2 : Int) (x3 : Int) (h : MH) : Run (d + 1) 78 0 [.inr (.inr (.inl 0)), .inr (.inr (.inl 12)), .inl x0, .inl x1, .inl x2, .inl x3, vU, vU] [] h = (if 0 ≤ (wI (6 + x0)) ∧ (wI (6 + x0)) < 37 then (cI (Run d 79 0 [.inr (.inr (.inl 8)), .inr (.inr (.inl 12)), .inl x0, .inl (h 91 (wI (6 + x0)).toNat), .inl x1, .inl x2, vU, vU] [] h) fun a3_ h2_ => (cI (Run d 87 0 [.inr (.inr (.inl 2)), .inl a3_, vU, vU, vU] [] h2_) fun a5_ h4_ => (if ¬ a5_ = (-1) then (cV (Run d 88 0 [.inr (.inr (.inl 12)), .inl x0, .inl a5_, .inl x3] [] (up h4_ 91 0 (wI ((h4_ 91 0) - x1)))) fun h7_ => (cV (Run d 89 0 [.inr (.inr (.inl 12)), .inl x0, .inl (h 91 (wI (6 + x0)).toNat), .inl a5_, .inl x1, vU] [] h7_) fun h8_ => some (some (.inl a5_), h8_))) else (if 0 ≤ (wI (16 + x0)) ∧ (wI (16 + x0)) < 37 then (cV (Run d 89 0 [.inr (.inr (.inl 12)), .inl x0, .inl (h 91 (wI (6 + x0)).toNat), .inl a5_, .inl x1, vU] [] (up (up h4_ 91 0 (wI ((h4_ 91 0) - x1))) 91 (wI (16 + x0)).toNat 2)) fun h10_ => some (some (.inl a5_), h10_)) else none)))) else none) := by
  refine (R_aload_n zf78_0 rfl zlt_12 rfl).trans ?_
  refine (R_getR zf78_1 zo_78 zfl_11_162 zk1_12 zft_9_0 zmr_12_0 rfl).trans ?_
  refine (R_bipush zf78_4 zb_6 rfl).trans ?_
  refine (R_iload_n zf78_6 rfl rfl).trans ?_
  refine (R_iadd zf78_7 rfl).trans ?_
  refine (R_iald zf78_8 zk_91 rfl).trans ?_
  refine ite_congr rfl (fun c1_ => ?_) (fun _ => rfl)
  refine (R_istore (ls' := [.inr (.inr (.inl 0)), .inr (.inr (.inl 12)), .inl x0, .inl x1, .inl x2, .inl x3, .inl (h 91 (wI (6 + x0)).toNat), vU]) zf78_9 (Nat.le_of_ble_eq_true rfl) rfl rfl).trans ?_
  refine (R_aload_n zf78_11 rfl zlt_0 rfl).trans ?_
  refine (R_getR zf78_12 zo_78 zfl_11_19 zk1_0 zft_11_1 zmr_0_1 rfl).trans ?_
  refine (R_aload_n zf78_15 rfl zlt_0 rfl).trans ?_
  refine (R_getR zf78_16 zo_78 zfl_11_58 zk1_0 zft_11_6 zmr_0_6 rfl).trans ?_
  refine (R_aload_n zf78_19 rfl zlt_12 rfl).trans ?_
  refine (R_iload_n zf78_20 rfl rfl).trans ?_
  refine (R_iload zf78_21 rfl rfl).trans ?_
  refine (R_iload_n zf78_23 rfl rfl).trans ?_
  refine (R_iload zf78_24 rfl rfl).trans ?_
  refine (R_vcallI zf78_26 zo_78 zvl_11_279 (by rw [zr_79]; rfl) zl_79 (Nat.le_of_ble_eq_true rfl) rfl rfl (Nat.le_of_ble_eq_true rfl) (Nat.le_of_ble_eq_true rfl) (es := [.inr (.inr (.inl 8)), .inr (.inr (.inl 12)), .inl x0, .inl (h 91 (wI (6 + x0)).toNat), .inl x1, .inl x2, vU, vU]) rfl rfl zk1_8 zo_79).trans ?_
  refine congrArg (cI _) (funext fun a3_ => funext fun h2_ => ?_)
  refine (R_vcallI zf78_29 zo_78 zvl_11_282 (by rw [zr_87]; rfl) zl_87 (Nat.le_of_ble_eq_true rfl) rfl rfl (Nat.le_of_ble_eq_true rfl) (Nat.le_of_ble_eq_true rfl) (es := [.inr (.inr (.inl 2)), .inl a3_, vU, vU, vU]) rfl rfl zk1_2 zo_87).trans ?_
  refine congrArg (cI _) (funext fun a5_ => funext fun h4_ => ?_)
  refine (R_istore (ls' := [.inr (.inr (.inl 0)), .inr (.inr (.inl 12)), .inl x0, .inl x1, .inl x2, .inl x3, .inl (h 91 (wI (6 + x0)).toNat), .inl a5_]) zf78_32 (Nat.le_of_ble_eq_true rfl) rfl rfl).trans ?_
  refine (R_aload_n zf78_34 rfl zlt_12 rfl).trans ?_
  refine (R_getR zf78_35 zo_78 zfl_11_162 zk1_12 zft_9_0 zmr_12_0 rfl).trans ?_
  refine (R_iconst zf78_38 zw_0 rfl).trans ?_
  refine (R_dup2 zf78_39 rfl rfl rfl).trans ?_
  refine (R_ialdc zf78_40 zk_91 (by decide) rfl rfl).trans ?_
  refine (R_iload_n zf78_41 rfl rfl).trans ?_
  refine (R_isub zf78_42 rfl).trans ?_
  refine (R_iastc zf78_43 zk_91 (by decide) rfl rfl).trans ?_
  refine (R_iload zf78_44 rfl rfl).trans ?_
  refine (R_iconst zf78_46 zw_m1 rfl).trans ?_
  refine (R_icmp_ne (t := 63) zf78_47 rfl rfl).trans ?_
  refine ite_congr rfl (fun c6_ => ?_) (fun c6_ => ?_)
  · refine (R_aload_n zf78_63 rfl zlt_12 rfl).trans ?_
    refine (R_iload_n zf78_64 rfl rfl).trans ?_
    refine (R_iload zf78_65 rfl rfl).trans ?_
    refine (R_iload zf78_67 rfl rfl).trans ?_
    refine (R_vcallV zf78_69 zo_78 zvl_11_285 zr_88 zl_88 (Nat.le_of_ble_eq_true rfl) rfl rfl (Nat.le_of_ble_eq_true rfl) (Nat.le_of_ble_eq_true rfl) (es := [.inr (.inr (.inl 12)), .inl x0, .inl a5_, .inl x3]) rfl rfl zk1_12 zo_88).trans ?_
    refine congrArg (cV _) (funext fun h7_ => ?_)
    refine (R_aload_n zf78_72 rfl zlt_12 rfl).trans ?_
    refine (R_iload_n zf78_73 rfl rfl).trans ?_
    refine (R_iload zf78_74 rfl rfl).trans ?_
    refine (R_iload zf78_76 rfl rfl).trans ?_
    refine (R_iload_n zf78_78 rfl rfl).trans ?_
    refine (R_vcallV zf78_79 zo_78 zvl_11_289 zr_89 zl_89 (Nat.le_of_ble_eq_true rfl) rfl rfl (Nat.le_of_ble_eq_true rfl) (Nat.le_of_ble_eq_true rfl) (es := [.inr (.inr (.inl 12)), .inl x0, .inl (h 91 (wI (6 + x0)).toNat), .inl a5_, .inl x1, vU]) rfl rfl zk1_12 zo_89).trans ?_
    refine congrArg (cV _) (funext fun h8_ => ?_)
    refine (R_iload zf78_82 rfl rfl).trans ?_
    exact R_ireturn_i zf78_84 zr_78
  · refine (R_aload_n zf78_50 rfl zlt_12 rfl).trans ?_
    refine (R_getR zf78_51 zo_78 zfl_11_162 zk1_12 zft_9_0 zmr_12_0 rfl).trans ?_
    refine (R_bipush zf78_54 zb_16 rfl).trans ?_
    refine (R_iload_n zf78_56 rfl rfl).trans ?_
    refine (R_iadd zf78_57 rfl).trans ?_
    refine (R_iconst zf78_58 zw_2 rfl).trans ?_
    refine (R_iast zf78_59 zk_91 rfl).trans ?_
    refine ite_congr rfl (fun c9_ => ?_) (fun _ => rfl)
    refine (R_goto (t := 72) zf78_60 rfl).trans ?_
    refine (R_aload_n zf78_72 rfl zlt_12 rfl).trans ?_
    refine (R_iload_n zf78_73 rfl rfl).trans ?_
    refine (R_iload zf78_74 rfl rfl).trans ?_
    refine (R_iload zf78_76 rfl rfl).trans ?_
    refine (R_iload_n zf78_78 rfl rfl).trans ?_
    refine (R_vcallV zf78_79 zo_78 zvl_11_289 zr_89 zl_89 (Nat.le_of_ble_eq_true rfl) rfl rfl (Nat.le_of_ble_eq_true rfl) (Nat.le_of_ble_eq_true rfl) (es := [.inr (.inr (.inl 12)), .inl x0, .inl (h 91 (wI (6 + x0)).toNat), .inl a5_, .inl x1, vU]) rfl rfl zk1_12 zo_89).trans ?_
    refine congrArg (cV _) (funext fun h10_ => ?_)
    refine (R_iload zf78_82 rfl rfl).trans ?_
    exact R_ireturn_i zf78_84 zr_78
-- CannonPost.canHear(LCannonPost$State;II)Z at 0
theorem q91_0 (d : Nat) (x0 : Int) (x1 : Int) (h : MH) : Run (d + 1) 91 0 [.inr (.inr (.inl 0)), .inr (.inr (.inl 12)), .inl x0, .inl x1] [] h = (cI (Run d 20 0 [.inr (.inr (.inl 2)), .inl x0] [] h) fun a2_ h1_ => (if a2_ = 0 then some (some (.inl 0), h1_) else (cI (Run d 92 0 [.inl x1] [] h1_) fun a5_ h4_ => (if a5_ = 0 then some (some (.inl 0), h4_) else (if 0 ≤ (wI (29 + x0)) ∧ (wI (29 + x0)) < 37 then (if ¬ (iAnd (iShr (h4_ 91 (wI (29 + x0)).toNat) x1) 1) = 0 then some (some (.inl 0), h4_) else some (some (.inl 1), h4_)) else none))))) := by
  refine (R_aload_n zf91_0 rfl zlt_0 rfl).trans ?_
  refine (R_getR zf91_1 zo_91 zfl_11_19 zk1_0 zft_11_1 zmr_0_1 rfl).trans ?_
  refine (R_iload_n zf91_4 rfl rfl).trans ?_
  refine (R_vcallI zf91_5 zo_91 zvl_11_168 (by rw [zr_20]; rfl) zl_20 (Nat.le_of_ble_eq_true rfl) rfl rfl (Nat.le_of_ble_eq_true rfl) (Nat.le_of_ble_eq_true rfl) (es := [.inr (.inr (.inl 2)), .inl x0]) rfl rfl zk1_2 zo_20).trans ?_
  refine congrArg (cI _) (funext fun a2_ => funext fun h1_ => ?_)
  refine (R_if_eq (t := 38) zf91_8 rfl rfl).trans ?_
  refine ite_congr rfl (fun c3_ => ?_) (fun c3_ => ?_)
  · refine (R_iconst zf91_38 zw_0 rfl).trans ?_
    exact R_ireturn zf91_39 (by rw [zr_91]; rfl)
  · refine (R_iload_n zf91_11 rfl rfl).trans ?_
    refine (R_callI zf91_12 zo_91 zsl_11_276 (by rw [zr_92]; rfl) zl_92 (Nat.le_of_ble_eq_true rfl) rfl rfl (Nat.le_of_ble_eq_true rfl) (Nat.le_of_ble_eq_true rfl) (es := [.inl x1]) rfl rfl).trans ?_
    refine congrArg (cI _) (funext fun a5_ => funext fun h4_ => ?_)
    refine (R_if_eq (t := 38) zf91_15 rfl rfl).trans ?_
    refine ite_congr rfl (fun c6_ => ?_) (fun c6_ => ?_)
    · refine (R_iconst zf91_38 zw_0 rfl).trans ?_
      exact R_ireturn zf91_39 (by rw [zr_91]; rfl)
    · refine (R_aload_n zf91_18 rfl zlt_12 rfl).trans ?_
      refine (R_getR zf91_19 zo_91 zfl_11_162 zk1_12 zft_9_0 zmr_12_0 rfl).trans ?_
      refine (R_bipush zf91_22 zb_29 rfl).trans ?_
      refine (R_iload_n zf91_24 rfl rfl).trans ?_
      refine (R_iadd zf91_25 rfl).trans ?_
      refine (R_iald zf91_26 zk_91 rfl).trans ?_
      refine ite_congr rfl (fun c7_ => ?_) (fun _ => rfl)
      refine (R_iload_n zf91_27 rfl rfl).trans ?_
      refine (R_ishr zf91_28 rfl).trans ?_
      refine (R_iconst zf91_29 zw_1 rfl).trans ?_
      refine (R_iand zf91_30 rfl).trans ?_
      refine (R_if_ne (t := 38) zf91_31 rfl rfl).trans ?_
      refine ite_congr rfl (fun c8_ => ?_) (fun c8_ => ?_)
      · refine (R_iconst zf91_38 zw_0 rfl).trans ?_
        exact R_ireturn zf91_39 (by rw [zr_91]; rfl)
      · refine (R_iconst zf91_34 zw_1 rfl).trans ?_
        refine (R_goto (t := 39) zf91_35 rfl).trans ?_
        exact R_ireturn zf91_39 (by rw [zr_91]; rfl)
-- CannonPost$State.blows(II)Z at 0
theorem q96_0 (d : Nat) (x0 : Int) (x1 : Int) (h : MH) : Run d 96 0 [.inr (.inr (.inl 12)), .inl x0, .inl x1] [] h = (if ¬ (h 91 1) = x0 then some (some (.inl 0), h) else (if ¬ (h 91 2) = x1 then some (some (.inl 0), h) else some (some (.inl 1), h))) := by
  refine (R_aload_n zf96_0 rfl zlt_12 rfl).trans ?_
  refine (R_getR zf96_1 zo_96 zfl_9_15 zk1_12 zft_9_0 zmr_12_0 rfl).trans ?_
  refine (R_iconst zf96_4 zw_1 rfl).trans ?_
  refine (R_ialdc zf96_5 zk_91 (by decide) rfl rfl).trans ?_
  refine (R_iload_n zf96_6 rfl rfl).trans ?_
  refine (R_icmp_ne (t := 24) zf96_7 rfl rfl).trans ?_
  refine ite_congr rfl (fun c1_ => ?_) (fun c1_ => ?_)
  · refine (R_iconst zf96_24 zw_0 rfl).trans ?_
    exact R_ireturn zf96_25 (by rw [zr_96]; rfl)
  · refine (R_aload_n zf96_10 rfl zlt_12 rfl).trans ?_
    refine (R_getR zf96_11 zo_96 zfl_9_15 zk1_12 zft_9_0 zmr_12_0 rfl).trans ?_
    refine (R_iconst zf96_14 zw_2 rfl).trans ?_
    refine (R_ialdc zf96_15 zk_91 (by decide) rfl rfl).trans ?_
    refine (R_iload_n zf96_16 rfl rfl).trans ?_
    refine (R_icmp_ne (t := 24) zf96_17 rfl rfl).trans ?_
    refine ite_congr rfl (fun c2_ => ?_) (fun c2_ => ?_)
    · refine (R_iconst zf96_24 zw_0 rfl).trans ?_
      exact R_ireturn zf96_25 (by rw [zr_96]; rfl)
    · refine (R_iconst zf96_20 zw_1 rfl).trans ?_
      refine (R_goto (t := 25) zf96_21 rfl).trans ?_
      exact R_ireturn zf96_25 (by rw [zr_96]; rfl)
-- CannonPost.hoursFit(I)Z at 0
theorem q99_0 (d : Nat) (x0 : Int) (h : MH) : Run (d + 1) 99 0 [.inr (.inr (.inl 0)), .inl x0] [] h = (cI (Run d 61 0 [.inr (.inr (.inl 2))] [] h) fun a2_ h1_ => (if a2_ = 0 then some (some (.inl 0), h1_) else (if x0 < 1 then some (some (.inl 0), h1_) else (if 60 < x0 then some (some (.inl 0), h1_) else (if 9999 < (wI ((h1_ 91 4) + x0)) then some (some (.inl 0), h1_) else some (some (.inl 1), h1_)))))) := by
  refine (R_aload_n zf99_0 rfl zlt_0 rfl).trans ?_
  refine (R_getR zf99_1 zo_99 zfl_11_19 zk1_0 zft_11_1 zmr_0_1 rfl).trans ?_
  refine (R_vcallI zf99_4 zo_99 zvl_11_159 (by rw [zr_61]; rfl) zl_61 (Nat.le_of_ble_eq_true rfl) rfl rfl (Nat.le_of_ble_eq_true rfl) (Nat.le_of_ble_eq_true rfl) (es := [.inr (.inr (.inl 2))]) rfl rfl zk1_2 zo_61).trans ?_
  refine congrArg (cI _) (funext fun a2_ => funext fun h1_ => ?_)
  refine (R_if_eq (t := 42) zf99_7 rfl rfl).trans ?_
  refine ite_congr rfl (fun c3_ => ?_) (fun c3_ => ?_)
  · refine (R_iconst zf99_42 zw_0 rfl).trans ?_
    exact R_ireturn zf99_43 (by rw [zr_99]; rfl)
  · refine (R_iload_n zf99_10 rfl rfl).trans ?_
    refine (R_iconst zf99_11 zw_1 rfl).trans ?_
    refine (R_icmp_lt (t := 42) zf99_12 rfl rfl).trans ?_
    refine ite_congr rfl (fun c4_ => ?_) (fun c4_ => ?_)
    · refine (R_iconst zf99_42 zw_0 rfl).trans ?_
      exact R_ireturn zf99_43 (by rw [zr_99]; rfl)
    · refine (R_iload_n zf99_15 rfl rfl).trans ?_
      refine (R_bipush zf99_16 zb_60 rfl).trans ?_
      refine (R_icmp_gt (t := 42) zf99_18 rfl rfl).trans ?_
      refine ite_congr rfl (fun c5_ => ?_) (fun c5_ => ?_)
      · refine (R_iconst zf99_42 zw_0 rfl).trans ?_
        exact R_ireturn zf99_43 (by rw [zr_99]; rfl)
      · refine (R_aload_n zf99_21 rfl zlt_0 rfl).trans ?_
        refine (R_getR zf99_22 zo_99 zfl_11_88 zk1_0 zft_11_10 zmr_0_10 rfl).trans ?_
        refine (R_getR zf99_25 zo_99 zfl_11_162 zk1_12 zft_9_0 zmr_12_0 rfl).trans ?_
        refine (R_iconst zf99_28 zw_4 rfl).trans ?_
        refine (R_ialdc zf99_29 zk_91 (by decide) rfl rfl).trans ?_
        refine (R_iload_n zf99_30 rfl rfl).trans ?_
        refine (R_iadd zf99_31 rfl).trans ?_
        refine (R_sipush zf99_32 zs_9999 rfl).trans ?_
        refine (R_icmp_gt (t := 42) zf99_35 rfl rfl).trans ?_
        refine ite_congr rfl (fun c6_ => ?_) (fun c6_ => ?_)
        · refine (R_iconst zf99_42 zw_0 rfl).trans ?_
          exact R_ireturn zf99_43 (by rw [zr_99]; rfl)
        · refine (R_iconst zf99_38 zw_1 rfl).trans ?_
          refine (R_goto (t := 43) zf99_39 rfl).trans ?_
          exact R_ireturn zf99_43 (by rw [zr_99]; rfl)
-- CannonPost.hours(I)I at 12
theorem q98_12 (d : Nat) (x0 : Int) (x1 : Int) (h : MH) : Run (d + 1) 98 12 [.inr (.inr (.inl 0)), .inl x0, .inl x1] [] h = (if x0 ≤ x1 then some (some (.inl (h 91 4)), h) else (cV (Run d 77 0 [.inr (.inr (.inl 11)), .inr (.inr (.inl 12))] [] h) fun h2_ => (cV (Run d 100 0 [.inr (.inr (.inl 12)), .inl (h2_ 2 3), vU] [] h2_) fun h3_ => Run (d + 1) 98 12 [.inr (.inr (.inl 0)), .inl x0, .inl (wI (x1 + 1))] [] h3_))) := by
  refine (R_iload_n zf98_12 rfl rfl).trans ?_
  refine (R_iload_n zf98_13 rfl rfl).trans ?_
  refine (R_icmp_ge (t := 48) zf98_14 rfl rfl).trans ?_
  refine ite_congr rfl (fun c1_ => ?_) (fun c1_ => ?_)
  · refine (R_aload_n zf98_48 rfl zlt_0 rfl).trans ?_
    refine (R_getR zf98_49 zo_98 zfl_11_88 zk1_0 zft_11_10 zmr_0_10 rfl).trans ?_
    refine (R_getR zf98_52 zo_98 zfl_11_162 zk1_12 zft_9_0 zmr_12_0 rfl).trans ?_
    refine (R_iconst zf98_55 zw_4 rfl).trans ?_
    refine (R_ialdc zf98_56 zk_91 (by decide) rfl rfl).trans ?_
    exact R_ireturn_i zf98_57 zr_98
  · refine (R_aload_n zf98_17 rfl zlt_0 rfl).trans ?_
    refine (R_getR zf98_18 zo_98 zfl_11_81 zk1_0 zft_11_9 zmr_0_9 rfl).trans ?_
    refine (R_aload_n zf98_21 rfl zlt_0 rfl).trans ?_
    refine (R_getR zf98_22 zo_98 zfl_11_88 zk1_0 zft_11_10 zmr_0_10 rfl).trans ?_
    refine (R_vcallV zf98_25 zo_98 zvl_11_235 zr_77 zl_77 (Nat.le_of_ble_eq_true rfl) rfl rfl (Nat.le_of_ble_eq_true rfl) (Nat.le_of_ble_eq_true rfl) (es := [.inr (.inr (.inl 11)), .inr (.inr (.inl 12))]) rfl rfl zk1_11 zo_77).trans ?_
    refine congrArg (cV _) (funext fun h2_ => ?_)
    refine (R_aload_n zf98_28 rfl zlt_0 rfl).trans ?_
    refine (R_getR zf98_29 zo_98 zfl_11_88 zk1_0 zft_11_10 zmr_0_10 rfl).trans ?_
    refine (R_aload_n zf98_32 rfl zlt_0 rfl).trans ?_
    refine (R_getR zf98_33 zo_98 zfl_11_19 zk1_0 zft_11_1 zmr_0_1 rfl).trans ?_
    refine (R_getI zf98_36 zo_98 zfl_11_119 zk1_2 zft_5_3 rfl).trans ?_
    refine (R_vcallV zf98_39 zo_98 zvl_11_252 zr_100 zl_100 (Nat.le_of_ble_eq_true rfl) rfl rfl (Nat.le_of_ble_eq_true rfl) (Nat.le_of_ble_eq_true rfl) (es := [.inr (.inr (.inl 12)), .inl (h2_ 2 3), vU]) rfl rfl zk1_12 zo_100).trans ?_
    refine congrArg (cV _) (funext fun h3_ => ?_)
    refine (R_iinc (ls' := [.inr (.inr (.inl 0)), .inl x0, .inl (wI (x1 + 1))]) zf98_42 rfl rfl rfl).trans ?_
    refine (R_goto (t := 12) zf98_45 rfl).trans ?_
    rfl
-- CannonPost.decades(IJ)I at 16
theorem q101_16 (d : Nat) (x0 : Int) (x1 : Int) (z2 : MV) (hz2 : cat z2 = 1) (x3 : Int) (z4 : MV) (hz4 : cat z4 = 1) (x5 : Int) (h : MH) : Run (d + 1) 101 16 [.inr (.inr (.inl 0)), .inl x0, .inr (.inl x1), z2, .inr (.inl x3), z4, .inl x5] [] h = (if x0 ≤ x5 then some (some (.inl (h 91 4)), h) else (cV (Run d 77 0 [.inr (.inr (.inl 11)), .inr (.inr (.inl 12))] [] h) fun h2_ => (cJ (Run d 102 0 [.inr (.inr (.inl 0)), .inr (.inl x3), vU, vU, vU, vU, vU, vU] [] h2_) fun a4_ h3_ => (cV (Run d 100 0 [.inr (.inr (.inl 12)), .inl (h3_ 2 3), vU] [] h3_) fun h5_ => Run (d + 1) 101 16 [.inr (.inr (.inl 0)), .inl x0, .inr (.inl x1), z2, .inr (.inl a4_), vU, .inl (wI (x5 + 1))] [] h5_)))) := by
  refine (R_iload zf101_16 rfl rfl).trans ?_
  refine (R_iload_n zf101_18 rfl rfl).trans ?_
  refine (R_icmp_ge (t := 61) zf101_19 rfl rfl).trans ?_
  refine ite_congr rfl (fun c1_ => ?_) (fun c1_ => ?_)
  · refine (R_aload_n zf101_61 rfl zlt_0 rfl).trans ?_
    refine (R_getR zf101_62 zo_101 zfl_11_88 zk1_0 zft_11_10 zmr_0_10 rfl).trans ?_
    refine (R_getR zf101_65 zo_101 zfl_11_162 zk1_12 zft_9_0 zmr_12_0 rfl).trans ?_
    refine (R_iconst zf101_68 zw_4 rfl).trans ?_
    refine (R_ialdc zf101_69 zk_91 (by decide) rfl rfl).trans ?_
    exact R_ireturn_i zf101_70 zr_101
  · refine (R_aload_n zf101_22 rfl zlt_0 rfl).trans ?_
    refine (R_getR zf101_23 zo_101 zfl_11_81 zk1_0 zft_11_9 zmr_0_9 rfl).trans ?_
    refine (R_aload_n zf101_26 rfl zlt_0 rfl).trans ?_
    refine (R_getR zf101_27 zo_101 zfl_11_88 zk1_0 zft_11_10 zmr_0_10 rfl).trans ?_
    refine (R_vcallV zf101_30 zo_101 zvl_11_235 zr_77 zl_77 (Nat.le_of_ble_eq_true rfl) rfl rfl (Nat.le_of_ble_eq_true rfl) (Nat.le_of_ble_eq_true rfl) (es := [.inr (.inr (.inl 11)), .inr (.inr (.inl 12))]) rfl rfl zk1_11 zo_77).trans ?_
    refine congrArg (cV _) (funext fun h2_ => ?_)
    refine (R_aload_n zf101_33 rfl zlt_0 rfl).trans ?_
    refine (R_lload zf101_34 rfl rfl).trans ?_
    refine (R_vcallJ zf101_36 zo_101 zvl_11_255 zr_102 zl_102 (Nat.le_of_ble_eq_true rfl) rfl rfl (Nat.le_of_ble_eq_true rfl) (Nat.le_of_ble_eq_true rfl) (es := [.inr (.inr (.inl 0)), .inr (.inl x3), vU, vU, vU, vU, vU, vU]) rfl rfl zk1_0 zo_102).trans ?_
    refine congrArg (cJ _) (funext fun a4_ => funext fun h3_ => ?_)
    refine (R_lstore (ls' := [.inr (.inr (.inl 0)), .inl x0, .inr (.inl x1), z2, .inr (.inl a4_), vU, .inl x5]) zf101_39 (Nat.le_of_ble_eq_true rfl) (st2_z rfl hz2 rfl) rfl).trans ?_
    refine (R_aload_n zf101_41 rfl zlt_0 rfl).trans ?_
    refine (R_getR zf101_42 zo_101 zfl_11_88 zk1_0 zft_11_10 zmr_0_10 rfl).trans ?_
    refine (R_aload_n zf101_45 rfl zlt_0 rfl).trans ?_
    refine (R_getR zf101_46 zo_101 zfl_11_19 zk1_0 zft_11_1 zmr_0_1 rfl).trans ?_
    refine (R_getI zf101_49 zo_101 zfl_11_119 zk1_2 zft_5_3 rfl).trans ?_
    refine (R_vcallV zf101_52 zo_101 zvl_11_252 zr_100 zl_100 (Nat.le_of_ble_eq_true rfl) rfl rfl (Nat.le_of_ble_eq_true rfl) (Nat.le_of_ble_eq_true rfl) (es := [.inr (.inr (.inl 12)), .inl (h3_ 2 3), vU]) rfl rfl zk1_12 zo_100).trans ?_
    refine congrArg (cV _) (funext fun h5_ => ?_)
    refine (R_iinc (ls' := [.inr (.inr (.inl 0)), .inl x0, .inr (.inl x1), z2, .inr (.inl a4_), vU, .inl (wI (x5 + 1))]) zf101_55 rfl rfl rfl).trans ?_
    refine (R_goto (t := 16) zf101_58 rfl).trans ?_
    rfl
-- CannonPost$History.takeBack(LCannonPost$State;)Z at 0
theorem q107_0 (d : Nat) (h : MH) : Run d 107 0 [.inr (.inr (.inl 11)), .inr (.inr (.inl 12))] [] h = (if ¬ (h 11 0) = 0 then (if 0 ≤ ((up (up h 11 0 (wI ((h 11 0) - 1))) 11 2 ((wI ((wI (((up h 11 0 (wI ((h 11 0) - 1))) 11 2) + 40)) - 1)).tmod 40)) 11 2) ∧ ((up (up h 11 0 (wI ((h 11 0) - 1))) 11 2 ((wI ((wI (((up h 11 0 (wI ((h 11 0) - 1))) 11 2) + 40)) - 1)).tmod 40)) 11 2) < 40 then some (some (.inl 1), (cpy (up (up h 11 0 (wI ((h 11 0) - 1))) 11 2 ((wI ((wI (((up h 11 0 (wI ((h 11 0) - 1))) 11 2) + 40)) - 1)).tmod 40)) ((up (up h 11 0 (wI ((h 11 0) - 1))) 11 2 ((wI ((wI (((up h 11 0 (wI ((h 11 0) - 1))) 11 2) + 40)) - 1)).tmod 40)) (51 + ((up (up h 11 0 (wI ((h 11 0) - 1))) 11 2 ((wI ((wI (((up h 11 0 (wI ((h 11 0) - 1))) 11 2) + 40)) - 1)).tmod 40)) 11 2).toNat)) 91 0 0 37)) else none) else some (some (.inl 0), h)) := by
  refine (R_aload_n zf107_0 rfl zlt_11 rfl).trans ?_
  refine (R_getI zf107_1 zo_107 zfl_2_30 zk1_11 zft_2_0 rfl).trans ?_
  refine (R_if_ne (t := 9) zf107_4 rfl rfl).trans ?_
  refine ite_congr rfl (fun c1_ => ?_) (fun c1_ => ?_)
  · refine (R_aload_n zf107_9 rfl zlt_11 rfl).trans ?_
    refine (R_dup zf107_10 rfl rfl).trans ?_
    refine (R_getI zf107_11 zo_107 zfl_2_30 zk1_11 zft_2_0 rfl).trans ?_
    refine (R_iconst zf107_14 zw_1 rfl).trans ?_
    refine (R_isub zf107_15 rfl).trans ?_
    refine (R_putI zf107_16 zo_107 zfl_2_30 zk1_11 zft_2_0 rfl).trans ?_
    refine (R_aload_n zf107_19 rfl zlt_11 rfl).trans ?_
    refine (R_aload_n zf107_20 rfl zlt_11 rfl).trans ?_
    refine (R_getI zf107_21 zo_107 zfl_2_20 zk1_11 zft_2_2 rfl).trans ?_
    refine (R_bipush zf107_24 zb_40 rfl).trans ?_
    refine (R_iadd zf107_26 rfl).trans ?_
    refine (R_iconst zf107_27 zw_1 rfl).trans ?_
    refine (R_isub zf107_28 rfl).trans ?_
    refine (R_bipush zf107_29 zb_40 rfl).trans ?_
    refine (R_irem zf107_31 (by decide) rfl).trans ?_
    refine (R_putI zf107_32 zo_107 zfl_2_20 zk1_11 zft_2_2 rfl).trans ?_
    refine (R_aload_n zf107_35 rfl zlt_11 rfl).trans ?_
    refine (R_getR zf107_36 zo_107 zfl_2_13 zk1_11 zft_2_1 zmr_11_1 rfl).trans ?_
    refine (R_aload_n zf107_39 rfl zlt_11 rfl).trans ?_
    refine (R_getI zf107_40 zo_107 zfl_2_20 zk1_11 zft_2_2 rfl).trans ?_
    refine (R_aald zf107_43 zk_50 zmr_50_0 rfl).trans ?_
    refine ite_congr rfl (fun c2_ => ?_) (fun _ => rfl)
    refine (R_iconst zf107_44 zw_0 rfl).trans ?_
    refine (R_aload_n zf107_45 rfl zlt_12 rfl).trans ?_
    refine (R_getR zf107_46 zo_107 zfl_2_16 zk1_12 zft_9_0 zmr_12_0 rfl).trans ?_
    refine (R_iconst zf107_49 zw_0 rfl).trans ?_
    refine (R_bipush zf107_50 zb_37 rfl).trans ?_
    refine ((R_acpy zf107_52 zo_107 zsl_2_24 zal_2_24 (zgrid_51 _ (by omega)) zk_91 (Nat.le_of_ble_eq_true rfl) rfl).trans (if_pos (by decide))).trans ?_
    refine (R_iconst zf107_55 zw_1 rfl).trans ?_
    exact R_ireturn zf107_56 (by rw [zr_107]; rfl)
  · refine (R_iconst zf107_7 zw_0 rfl).trans ?_
    exact R_ireturn zf107_8 (by rw [zr_107]; rfl)
-- CannonPost$State.logged(II)I at 0
theorem q109_0 (d : Nat) (x0 : Int) (x1 : Int) (h : MH) : Run d 109 0 [.inr (.inr (.inl 12)), .inl x0, .inl x1] [] h = (if 0 ≤ (wI ((wI (((wI ((wI ((h 91 5) - 1)) - x0)).tmod 100) * 4)) + x1)) ∧ (wI ((wI (((wI ((wI ((h 91 5) - 1)) - x0)).tmod 100) * 4)) + x1)) < 400 then some (some (.inl (h 92 (wI ((wI (((wI ((wI ((h 91 5) - 1)) - x0)).tmod 100) * 4)) + x1)).toNat)), h) else none) := by
  refine (R_aload_n zf109_0 rfl zlt_12 rfl).trans ?_
  refine (R_getR zf109_1 zo_109 zfl_9_19 zk1_12 zft_9_1 zmr_12_1 rfl).trans ?_
  refine (R_aload_n zf109_4 rfl zlt_12 rfl).trans ?_
  refine (R_getR zf109_5 zo_109 zfl_9_15 zk1_12 zft_9_0 zmr_12_0 rfl).trans ?_
  refine (R_iconst zf109_8 zw_5 rfl).trans ?_
  refine (R_ialdc zf109_9 zk_91 (by decide) rfl rfl).trans ?_
  refine (R_iconst zf109_10 zw_1 rfl).trans ?_
  refine (R_isub zf109_11 rfl).trans ?_
  refine (R_iload_n zf109_12 rfl rfl).trans ?_
  refine (R_isub zf109_13 rfl).trans ?_
  refine (R_bipush zf109_14 zb_100 rfl).trans ?_
  refine (R_irem zf109_16 (by decide) rfl).trans ?_
  refine (R_iconst zf109_17 zw_4 rfl).trans ?_
  refine (R_imul zf109_18 rfl).trans ?_
  refine (R_iload_n zf109_19 rfl rfl).trans ?_
  refine (R_iadd zf109_20 rfl).trans ?_
  refine (R_iald zf109_21 zk_92 rfl).trans ?_
  refine ite_congr rfl (fun c1_ => ?_) (fun _ => rfl)
  exact R_ireturn_i zf109_22 zr_109
-- CannonPost$State.copyFrom(LCannonPost$State;)V at 0
theorem q111_0 (d : Nat) (h : MH) : Run d 111 0 [.inr (.inr (.inl 14)), .inr (.inr (.inl 12))] [] h = some (none, (cpy (cpy h (h 91) 95 0 0 37) ((cpy h (h 91) 95 0 0 37) 92) 96 0 0 400)) := by
  refine (R_aload_n zf111_0 rfl zlt_12 rfl).trans ?_
  refine (R_getR zf111_1 zo_111 zfl_9_15 zk1_12 zft_9_0 zmr_12_0 rfl).trans ?_
  refine (R_iconst zf111_4 zw_0 rfl).trans ?_
  refine (R_aload_n zf111_5 rfl zlt_14 rfl).trans ?_
  refine (R_getR zf111_6 zo_111 zfl_9_15 zk1_14 zft_9_0 zmr_14_0 rfl).trans ?_
  refine (R_iconst zf111_9 zw_0 rfl).trans ?_
  refine (R_bipush zf111_10 zb_37 rfl).trans ?_
  refine ((R_acpy zf111_12 zo_111 zsl_9_52 zal_9_52 zk_91 zk_95 (Nat.le_of_ble_eq_true rfl) rfl).trans (if_pos (by decide))).trans ?_
  refine (R_aload_n zf111_15 rfl zlt_12 rfl).trans ?_
  refine (R_getR zf111_16 zo_111 zfl_9_19 zk1_12 zft_9_1 zmr_12_1 rfl).trans ?_
  refine (R_iconst zf111_19 zw_0 rfl).trans ?_
  refine (R_aload_n zf111_20 rfl zlt_14 rfl).trans ?_
  refine (R_getR zf111_21 zo_111 zfl_9_19 zk1_14 zft_9_1 zmr_14_1 rfl).trans ?_
  refine (R_iconst zf111_24 zw_0 rfl).trans ?_
  refine (R_aload_n zf111_25 rfl zlt_14 rfl).trans ?_
  refine (R_getR zf111_26 zo_111 zfl_9_19 zk1_14 zft_9_1 zmr_14_1 rfl).trans ?_
  refine (R_len100 (v := 400) zf111_29 zk_96 rfl rfl).trans ?_
  refine ((R_acpy zf111_30 zo_111 zsl_9_52 zal_9_52 zk_92 zk_96 (Nat.le_of_ble_eq_true rfl) rfl).trans (if_pos (by decide))).trans ?_
  exact R_return zf111_33 zr_111
-- CannonPost$State.copyFrom(LCannonPost$State;)V at 0
theorem q111_0_1 (d : Nat) (h : MH) : Run d 111 0 [.inr (.inr (.inl 12)), .inr (.inr (.inl 14))] [] h = some (none, (cpy (cpy h (h 95) 91 0 0 37) ((cpy h (h 95) 91 0 0 37) 96) 92 0 0 400)) := by
  refine (R_aload_n zf111_0 rfl zlt_14 rfl).trans ?_
  refine (R_getR zf111_1 zo_111 zfl_9_15 zk1_14 zft_9_0 zmr_14_0 rfl).trans ?_
  refine (R_iconst zf111_4 zw_0 rfl).trans ?_
  refine (R_aload_n zf111_5 rfl zlt_12 rfl).trans ?_
  refine (R_getR zf111_6 zo_111 zfl_9_15 zk1_12 zft_9_0 zmr_12_0 rfl).trans ?_
  refine (R_iconst zf111_9 zw_0 rfl).trans ?_
  refine (R_bipush zf111_10 zb_37 rfl).trans ?_
  refine ((R_acpy zf111_12 zo_111 zsl_9_52 zal_9_52 zk_95 zk_91 (Nat.le_of_ble_eq_true rfl) rfl).trans (if_pos (by decide))).trans ?_
  refine (R_aload_n zf111_15 rfl zlt_14 rfl).trans ?_
  refine (R_getR zf111_16 zo_111 zfl_9_19 zk1_14 zft_9_1 zmr_14_1 rfl).trans ?_
  refine (R_iconst zf111_19 zw_0 rfl).trans ?_
  refine (R_aload_n zf111_20 rfl zlt_12 rfl).trans ?_
  refine (R_getR zf111_21 zo_111 zfl_9_19 zk1_12 zft_9_1 zmr_12_1 rfl).trans ?_
  refine (R_iconst zf111_24 zw_0 rfl).trans ?_
  refine (R_aload_n zf111_25 rfl zlt_12 rfl).trans ?_
  refine (R_getR zf111_26 zo_111 zfl_9_19 zk1_12 zft_9_1 zmr_12_1 rfl).trans ?_
  refine (R_len100 (v := 400) zf111_29 zk_92 rfl rfl).trans ?_
  refine ((R_acpy zf111_30 zo_111 zsl_9_52 zal_9_52 zk_96 zk_92 (Nat.le_of_ble_eq_true rfl) rfl).trans (if_pos (by decide))).trans ?_
  exact R_return zf111_33 zr_111
-- CannonPost$History.forget()V at 0
theorem q53_0 (d : Nat) (h : MH) : Run d 53 0 [.inr (.inr (.inl 11))] [] h = some (none, (up h 11 0 0)) := by
  refine (R_aload_n zf53_0 rfl zlt_11 rfl).trans ?_
  refine (R_iconst zf53_1 zw_0 rfl).trans ?_
  refine (R_putI zf53_2 zo_53 zfl_2_30 zk1_11 zft_2_0 rfl).trans ?_
  exact R_return zf53_5 zr_53
-- CannonPost$Planbook.has(I)Z at 0
theorem q114_0 (d : Nat) (x0 : Int) (h : MH) : Run d 114 0 [.inr (.inr (.inl 7)), .inl x0] [] h = (if x0 < 0 then some (some (.inl 0), h) else (if (h 7 1) ≤ x0 then some (some (.inl 0), h) else some (some (.inl 1), h))) := by
  refine (R_iload_n zf114_0 rfl rfl).trans ?_
  refine (R_if_lt (t := 16) zf114_1 rfl rfl).trans ?_
  refine ite_congr rfl (fun c1_ => ?_) (fun c1_ => ?_)
  · refine (R_iconst zf114_16 zw_0 rfl).trans ?_
    exact R_ireturn zf114_17 (by rw [zr_114]; rfl)
  · refine (R_iload_n zf114_4 rfl rfl).trans ?_
    refine (R_aload_n zf114_5 rfl zlt_7 rfl).trans ?_
    refine (R_getI zf114_6 zo_114 zfl_8_27 zk1_7 zft_8_1 rfl).trans ?_
    refine (R_icmp_ge (t := 16) zf114_9 rfl rfl).trans ?_
    refine ite_congr rfl (fun c2_ => ?_) (fun c2_ => ?_)
    · refine (R_iconst zf114_16 zw_0 rfl).trans ?_
      exact R_ireturn zf114_17 (by rw [zr_114]; rfl)
    · refine (R_iconst zf114_12 zw_1 rfl).trans ?_
      refine (R_goto (t := 17) zf114_13 rfl).trans ?_
      exact R_ireturn zf114_17 (by rw [zr_114]; rfl)
-- CannonPost$Planbook.part(III)I at 0
theorem q115_0 (d : Nat) (x0 : Int) (x1 : Int) (x2 : Int) (h : MH) : Run d 115 0 [.inr (.inr (.inl 7)), .inl x0, .inl x1, .inl x2] [] h = (if 0 ≤ x0 ∧ x0 < 4 then (if 0 ≤ (wI ((wI (x1 * 4)) + x2)) ∧ (wI ((wI (x1 * 4)) + x2)) < 64 then some (some (.inl (h (33 + x0.toNat) (wI ((wI (x1 * 4)) + x2)).toNat)), h) else none) else none) := by
  refine (R_aload_n zf115_0 rfl zlt_7 rfl).trans ?_
  refine (R_getR zf115_1 zo_115 zfl_8_17 zk1_7 zft_8_2 zmr_7_2 rfl).trans ?_
  refine (R_iload_n zf115_4 rfl rfl).trans ?_
  refine (R_aald zf115_5 zk_32 zmr_32_0 rfl).trans ?_
  refine ite_congr rfl (fun c1_ => ?_) (fun _ => rfl)
  refine (R_iload_n zf115_6 rfl rfl).trans ?_
  refine (R_iconst zf115_7 zw_4 rfl).trans ?_
  refine (R_imul zf115_8 rfl).trans ?_
  refine (R_iload_n zf115_9 rfl rfl).trans ?_
  refine (R_iadd zf115_10 rfl).trans ?_
  refine (R_iald zf115_11 (zgrid_33 _ (by omega)) rfl).trans ?_
  refine ite_congr rfl (fun c2_ => ?_) (fun _ => rfl)
  exact R_ireturn_i zf115_12 zr_115
-- CannonPost$State.copyFrom(LCannonPost$State;)V at 0
theorem q111_0_2 (d : Nat) (h : MH) : Run d 111 0 [.inr (.inr (.inl 13)), .inr (.inr (.inl 12))] [] h = some (none, (cpy (cpy h (h 91) 93 0 0 37) ((cpy h (h 91) 93 0 0 37) 92) 94 0 0 400)) := by
  refine (R_aload_n zf111_0 rfl zlt_12 rfl).trans ?_
  refine (R_getR zf111_1 zo_111 zfl_9_15 zk1_12 zft_9_0 zmr_12_0 rfl).trans ?_
  refine (R_iconst zf111_4 zw_0 rfl).trans ?_
  refine (R_aload_n zf111_5 rfl zlt_13 rfl).trans ?_
  refine (R_getR zf111_6 zo_111 zfl_9_15 zk1_13 zft_9_0 zmr_13_0 rfl).trans ?_
  refine (R_iconst zf111_9 zw_0 rfl).trans ?_
  refine (R_bipush zf111_10 zb_37 rfl).trans ?_
  refine ((R_acpy zf111_12 zo_111 zsl_9_52 zal_9_52 zk_91 zk_93 (Nat.le_of_ble_eq_true rfl) rfl).trans (if_pos (by decide))).trans ?_
  refine (R_aload_n zf111_15 rfl zlt_12 rfl).trans ?_
  refine (R_getR zf111_16 zo_111 zfl_9_19 zk1_12 zft_9_1 zmr_12_1 rfl).trans ?_
  refine (R_iconst zf111_19 zw_0 rfl).trans ?_
  refine (R_aload_n zf111_20 rfl zlt_13 rfl).trans ?_
  refine (R_getR zf111_21 zo_111 zfl_9_19 zk1_13 zft_9_1 zmr_13_1 rfl).trans ?_
  refine (R_iconst zf111_24 zw_0 rfl).trans ?_
  refine (R_aload_n zf111_25 rfl zlt_13 rfl).trans ?_
  refine (R_getR zf111_26 zo_111 zfl_9_19 zk1_13 zft_9_1 zmr_13_1 rfl).trans ?_
  refine (R_len100 (v := 400) zf111_29 zk_94 rfl rfl).trans ?_
  refine ((R_acpy zf111_30 zo_111 zsl_9_52 zal_9_52 zk_92 zk_94 (Nat.le_of_ble_eq_true rfl) rfl).trans (if_pos (by decide))).trans ?_
  exact R_return zf111_33 zr_111
-- CannonPost.follow(LCannonPost$State;IZ)I at 0
theorem q117_0 (d : Nat) (x0 : Int) (x1 : Int) (h : MH) : Run (d + 1) 117 0 [.inr (.inr (.inl 0)), .inr (.inr (.inl 13)), .inl x0, .inl x1, vU, vU, vU] [] h = Run (d + 1) 117 3 [.inr (.inr (.inl 0)), .inr (.inr (.inl 13)), .inl x0, .inl x1, .inl 0, vU, vU] [] h := by
  refine (R_iconst zf117_0 zw_0 rfl).trans ?_
  refine (R_istore (ls' := [.inr (.inr (.inl 0)), .inr (.inr (.inl 13)), .inl x0, .inl x1, .inl 0, vU, vU]) zf117_1 (Nat.le_of_ble_eq_true rfl) rfl rfl).trans ?_
  rfl
-- CannonPost.follow(LCannonPost$State;IZ)I at 0
theorem q117_0_1 (d : Nat) (x0 : Int) (x1 : Int) (h : MH) : Run (d + 1) 117 0 [.inr (.inr (.inl 0)), .inr (.inr (.inl 12)), .inl x0, .inl x1, vU, vU, vU] [] h = Run (d + 1) 117 3 [.inr (.inr (.inl 0)), .inr (.inr (.inl 12)), .inl x0, .inl x1, .inl 0, vU, vU] [] h := by
  refine (R_iconst zf117_0 zw_0 rfl).trans ?_
  refine (R_istore (ls' := [.inr (.inr (.inl 0)), .inr (.inr (.inl 12)), .inl x0, .inl x1, .inl 0, vU, vU]) zf117_1 (Nat.le_of_ble_eq_true rfl) rfl rfl).trans ?_
  rfl
-- CannonPost.isShot(IIII)Z at 0
theorem q122_0 (d : Nat) (x0 : Int) (x1 : Int) (x2 : Int) (x3 : Int) (h : MH) : Run (d + 1) 122 0 [.inr (.inr (.inl 0)), .inl x0, .inl x1, .inl x2, .inl x3] [] h = (cI (Run d 72 0 [.inr (.inr (.inl 2)), .inl x0] [] h) fun a2_ h1_ => (if a2_ = 0 then some (some (.inl 0), h1_) else (cI (Run d 20 0 [.inr (.inr (.inl 2)), .inl x1] [] h1_) fun a5_ h4_ => (if a5_ = 0 then some (some (.inl 0), h4_) else (cI (Run d 73 0 [.inl x2] [] h4_) fun a8_ h7_ => (if a8_ = 0 then some (some (.inl 0), h7_) else (cI (Run d 74 0 [.inl x3] [] h7_) fun a11_ h10_ => (if a11_ = 0 then some (some (.inl 0), h10_) else some (some (.inl 1), h10_))))))))) := by
  refine (R_aload_n zf122_0 rfl zlt_0 rfl).trans ?_
  refine (R_getR zf122_1 zo_122 zfl_11_19 zk1_0 zft_11_1 zmr_0_1 rfl).trans ?_
  refine (R_iload_n zf122_4 rfl rfl).trans ?_
  refine (R_vcallI zf122_5 zo_122 zvl_11_178 (by rw [zr_72]; rfl) zl_72 (Nat.le_of_ble_eq_true rfl) rfl rfl (Nat.le_of_ble_eq_true rfl) (Nat.le_of_ble_eq_true rfl) (es := [.inr (.inr (.inl 2)), .inl x0]) rfl rfl zk1_2 zo_72).trans ?_
  refine congrArg (cI _) (funext fun a2_ => funext fun h1_ => ?_)
  refine (R_if_eq (t := 41) zf122_8 rfl rfl).trans ?_
  refine ite_congr rfl (fun c3_ => ?_) (fun c3_ => ?_)
  · refine (R_iconst zf122_41 zw_0 rfl).trans ?_
    exact R_ireturn zf122_42 (by rw [zr_122]; rfl)
  · refine (R_aload_n zf122_11 rfl zlt_0 rfl).trans ?_
    refine (R_getR zf122_12 zo_122 zfl_11_19 zk1_0 zft_11_1 zmr_0_1 rfl).trans ?_
    refine (R_iload_n zf122_15 rfl rfl).trans ?_
    refine (R_vcallI zf122_16 zo_122 zvl_11_168 (by rw [zr_20]; rfl) zl_20 (Nat.le_of_ble_eq_true rfl) rfl rfl (Nat.le_of_ble_eq_true rfl) (Nat.le_of_ble_eq_true rfl) (es := [.inr (.inr (.inl 2)), .inl x1]) rfl rfl zk1_2 zo_20).trans ?_
    refine congrArg (cI _) (funext fun a5_ => funext fun h4_ => ?_)
    refine (R_if_eq (t := 41) zf122_19 rfl rfl).trans ?_
    refine ite_congr rfl (fun c6_ => ?_) (fun c6_ => ?_)
    · refine (R_iconst zf122_41 zw_0 rfl).trans ?_
      exact R_ireturn zf122_42 (by rw [zr_122]; rfl)
    · refine (R_iload_n zf122_22 rfl rfl).trans ?_
      refine (R_callI zf122_23 zo_122 zsl_11_268 (by rw [zr_73]; rfl) zl_73 (Nat.le_of_ble_eq_true rfl) rfl rfl (Nat.le_of_ble_eq_true rfl) (Nat.le_of_ble_eq_true rfl) (es := [.inl x2]) rfl rfl).trans ?_
      refine congrArg (cI _) (funext fun a8_ => funext fun h7_ => ?_)
      refine (R_if_eq (t := 41) zf122_26 rfl rfl).trans ?_
      refine ite_congr rfl (fun c9_ => ?_) (fun c9_ => ?_)
      · refine (R_iconst zf122_41 zw_0 rfl).trans ?_
        exact R_ireturn zf122_42 (by rw [zr_122]; rfl)
      · refine (R_iload zf122_29 rfl rfl).trans ?_
        refine (R_callI zf122_31 zo_122 zsl_11_228 (by rw [zr_74]; rfl) zl_74 (Nat.le_of_ble_eq_true rfl) rfl rfl (Nat.le_of_ble_eq_true rfl) (Nat.le_of_ble_eq_true rfl) (es := [.inl x3]) rfl rfl).trans ?_
        refine congrArg (cI _) (funext fun a11_ => funext fun h10_ => ?_)
        refine (R_if_eq (t := 41) zf122_34 rfl rfl).trans ?_
        refine ite_congr rfl (fun c12_ => ?_) (fun c12_ => ?_)
        · refine (R_iconst zf122_41 zw_0 rfl).trans ?_
          exact R_ireturn zf122_42 (by rw [zr_122]; rfl)
        · refine (R_iconst zf122_37 zw_1 rfl).trans ?_
          refine (R_goto (t := 42) zf122_38 rfl).trans ?_
          exact R_ireturn zf122_42 (by rw [zr_122]; rfl)
-- CannonPost$Flight.comesTo(LCannonPost$State;IIII)I at 0
theorem q79_0 (d : Nat) (x0 : Int) (x1 : Int) (x2 : Int) (x3 : Int) (h : MH) : Run (d + 1) 79 0 [.inr (.inr (.inl 8)), .inr (.inr (.inl 12)), .inl x0, .inl x1, .inl x2, .inl x3, vU, vU] [] h = (cI (Run d 80 0 [.inl (h 91 1), .inl (h 91 2), .inl x3] [] h) fun a2_ h1_ => (cI (Run d 81 0 [.inr (.inr (.inl 8)), .inl x0, .inl x1, .inl x2, .inl a2_, .inl (h1_ 91 3), vU, vU, vU] [] h1_) fun a4_ h3_ => (cI (Run d 18 0 [.inr (.inr (.inl 2)), .inl x1] [] h3_) fun a6_ h5_ => (cI (Run d 86 0 [.inl a6_, .inl a4_, .inl x3] [] h5_) fun a8_ h7_ => some (some (.inl a8_), h7_))))) := by
  refine (R_aload_n zf79_0 rfl zlt_12 rfl).trans ?_
  refine (R_getR zf79_1 zo_79 zfl_0_66 zk1_12 zft_9_0 zmr_12_0 rfl).trans ?_
  refine (R_iconst zf79_4 zw_1 rfl).trans ?_
  refine (R_ialdc zf79_5 zk_91 (by decide) rfl rfl).trans ?_
  refine (R_aload_n zf79_6 rfl zlt_12 rfl).trans ?_
  refine (R_getR zf79_7 zo_79 zfl_0_66 zk1_12 zft_9_0 zmr_12_0 rfl).trans ?_
  refine (R_iconst zf79_10 zw_2 rfl).trans ?_
  refine (R_ialdc zf79_11 zk_91 (by decide) rfl rfl).trans ?_
  refine (R_iload zf79_12 rfl rfl).trans ?_
  refine (R_callI zf79_14 zo_79 zsl_0_71 (by rw [zr_80]; rfl) zl_80 (Nat.le_of_ble_eq_true rfl) rfl rfl (Nat.le_of_ble_eq_true rfl) (Nat.le_of_ble_eq_true rfl) (es := [.inl (h 91 1), .inl (h 91 2), .inl x3]) rfl rfl).trans ?_
  refine congrArg (cI _) (funext fun a2_ => funext fun h1_ => ?_)
  refine (R_istore (ls' := [.inr (.inr (.inl 8)), .inr (.inr (.inl 12)), .inl x0, .inl x1, .inl x2, .inl x3, .inl a2_, vU]) zf79_17 (Nat.le_of_ble_eq_true rfl) rfl rfl).trans ?_
  refine (R_aload_n zf79_19 rfl zlt_8 rfl).trans ?_
  refine (R_iload_n zf79_20 rfl rfl).trans ?_
  refine (R_iload_n zf79_21 rfl rfl).trans ?_
  refine (R_iload zf79_22 rfl rfl).trans ?_
  refine (R_iload zf79_24 rfl rfl).trans ?_
  refine (R_aload_n zf79_26 rfl zlt_12 rfl).trans ?_
  refine (R_getR zf79_27 zo_79 zfl_0_66 zk1_12 zft_9_0 zmr_12_0 rfl).trans ?_
  refine (R_iconst zf79_30 zw_3 rfl).trans ?_
  refine (R_ialdc zf79_31 zk_91 (by decide) rfl rfl).trans ?_
  refine (R_vcallI zf79_32 zo_79 zvl_0_75 (by rw [zr_81]; rfl) zl_81 (Nat.le_of_ble_eq_true rfl) rfl rfl (Nat.le_of_ble_eq_true rfl) (Nat.le_of_ble_eq_true rfl) (es := [.inr (.inr (.inl 8)), .inl x0, .inl x1, .inl x2, .inl a2_, .inl (h1_ 91 3), vU, vU, vU]) rfl rfl zk1_8 zo_81).trans ?_
  refine congrArg (cI _) (funext fun a4_ => funext fun h3_ => ?_)
  refine (R_istore (ls' := [.inr (.inr (.inl 8)), .inr (.inr (.inl 12)), .inl x0, .inl x1, .inl x2, .inl x3, .inl a2_, .inl a4_]) zf79_35 (Nat.le_of_ble_eq_true rfl) rfl rfl).trans ?_
  refine (R_aload_n zf79_37 rfl zlt_8 rfl).trans ?_
  refine (R_getR zf79_38 zo_79 zfl_0_20 zk1_8 zft_0_0 zmr_8_0 rfl).trans ?_
  refine (R_iload_n zf79_41 rfl rfl).trans ?_
  refine (R_vcallI zf79_42 zo_79 zvl_0_79 (by rw [zr_18]; rfl) zl_18 (Nat.le_of_ble_eq_true rfl) rfl rfl (Nat.le_of_ble_eq_true rfl) (Nat.le_of_ble_eq_true rfl) (es := [.inr (.inr (.inl 2)), .inl x1]) rfl rfl zk1_2 zo_18).trans ?_
  refine congrArg (cI _) (funext fun a6_ => funext fun h5_ => ?_)
  refine (R_iload zf79_45 rfl rfl).trans ?_
  refine (R_iload zf79_47 rfl rfl).trans ?_
  refine (R_callI zf79_49 zo_79 zsl_0_82 (by rw [zr_86]; rfl) zl_86 (Nat.le_of_ble_eq_true rfl) rfl rfl (Nat.le_of_ble_eq_true rfl) (Nat.le_of_ble_eq_true rfl) (es := [.inl a6_, .inl a4_, .inl x3]) rfl rfl).trans ?_
  refine congrArg (cI _) (funext fun a8_ => funext fun h7_ => ?_)
  exact R_ireturn_i zf79_52 zr_79
-- CannonPost$League.fortNear(I)I at 0
theorem q87_0 (d : Nat) (x0 : Int) (h : MH) : Run (d + 1) 87 0 [.inr (.inr (.inl 2)), .inl x0, vU, vU, vU] [] h = Run (d + 1) 87 9 [.inr (.inr (.inl 2)), .inl x0, .inl (-1), .inl (wI ((h 2 3) - 1)), vU] [] h := by
  refine (R_iconst zf87_0 zw_m1 rfl).trans ?_
  refine (R_istore_n (ls' := [.inr (.inr (.inl 2)), .inl x0, .inl (-1), vU, vU]) zf87_1 (Nat.le_of_ble_eq_true rfl) rfl rfl).trans ?_
  refine (R_aload_n zf87_2 rfl zlt_2 rfl).trans ?_
  refine (R_getI zf87_3 zo_87 zfl_5_27 zk1_2 zft_5_3 rfl).trans ?_
  refine (R_iconst zf87_6 zw_1 rfl).trans ?_
  refine (R_isub zf87_7 rfl).trans ?_
  refine (R_istore_n (ls' := [.inr (.inr (.inl 2)), .inl x0, .inl (-1), .inl (wI ((h 2 3) - 1)), vU]) zf87_8 (Nat.le_of_ble_eq_true rfl) rfl rfl).trans ?_
  rfl
-- CannonPost.isPassage(III)Z at 0
theorem q124_0 (d : Nat) (x0 : Int) (x1 : Int) (x2 : Int) (h : MH) : Run (d + 1) 124 0 [.inr (.inr (.inl 0)), .inl x0, .inl x1, .inl x2] [] h = (cI (Run d 72 0 [.inr (.inr (.inl 2)), .inl x0] [] h) fun a2_ h1_ => (if a2_ = 0 then some (some (.inl 0), h1_) else (cI (Run d 20 0 [.inr (.inr (.inl 2)), .inl x1] [] h1_) fun a5_ h4_ => (if a5_ = 0 then some (some (.inl 0), h4_) else (cI (Run d 20 0 [.inr (.inr (.inl 2)), .inl x2] [] h4_) fun a8_ h7_ => (if a8_ = 0 then some (some (.inl 0), h7_) else some (some (.inl 1), h7_))))))) := by
  refine (R_aload_n zf124_0 rfl zlt_0 rfl).trans ?_
  refine (R_getR zf124_1 zo_124 zfl_11_19 zk1_0 zft_11_1 zmr_0_1 rfl).trans ?_
  refine (R_iload_n zf124_4 rfl rfl).trans ?_
  refine (R_vcallI zf124_5 zo_124 zvl_11_178 (by rw [zr_72]; rfl) zl_72 (Nat.le_of_ble_eq_true rfl) rfl rfl (Nat.le_of_ble_eq_true rfl) (Nat.le_of_ble_eq_true rfl) (es := [.inr (.inr (.inl 2)), .inl x0]) rfl rfl zk1_2 zo_72).trans ?_
  refine congrArg (cI _) (funext fun a2_ => funext fun h1_ => ?_)
  refine (R_if_eq (t := 37) zf124_8 rfl rfl).trans ?_
  refine ite_congr rfl (fun c3_ => ?_) (fun c3_ => ?_)
  · refine (R_iconst zf124_37 zw_0 rfl).trans ?_
    exact R_ireturn zf124_38 (by rw [zr_124]; rfl)
  · refine (R_aload_n zf124_11 rfl zlt_0 rfl).trans ?_
    refine (R_getR zf124_12 zo_124 zfl_11_19 zk1_0 zft_11_1 zmr_0_1 rfl).trans ?_
    refine (R_iload_n zf124_15 rfl rfl).trans ?_
    refine (R_vcallI zf124_16 zo_124 zvl_11_168 (by rw [zr_20]; rfl) zl_20 (Nat.le_of_ble_eq_true rfl) rfl rfl (Nat.le_of_ble_eq_true rfl) (Nat.le_of_ble_eq_true rfl) (es := [.inr (.inr (.inl 2)), .inl x1]) rfl rfl zk1_2 zo_20).trans ?_
    refine congrArg (cI _) (funext fun a5_ => funext fun h4_ => ?_)
    refine (R_if_eq (t := 37) zf124_19 rfl rfl).trans ?_
    refine ite_congr rfl (fun c6_ => ?_) (fun c6_ => ?_)
    · refine (R_iconst zf124_37 zw_0 rfl).trans ?_
      exact R_ireturn zf124_38 (by rw [zr_124]; rfl)
    · refine (R_aload_n zf124_22 rfl zlt_0 rfl).trans ?_
      refine (R_getR zf124_23 zo_124 zfl_11_19 zk1_0 zft_11_1 zmr_0_1 rfl).trans ?_
      refine (R_iload_n zf124_26 rfl rfl).trans ?_
      refine (R_vcallI zf124_27 zo_124 zvl_11_168 (by rw [zr_20]; rfl) zl_20 (Nat.le_of_ble_eq_true rfl) rfl rfl (Nat.le_of_ble_eq_true rfl) (Nat.le_of_ble_eq_true rfl) (es := [.inr (.inr (.inl 2)), .inl x2]) rfl rfl zk1_2 zo_20).trans ?_
      refine congrArg (cI _) (funext fun a8_ => funext fun h7_ => ?_)
      refine (R_if_eq (t := 37) zf124_30 rfl rfl).trans ?_
      refine ite_congr rfl (fun c9_ => ?_) (fun c9_ => ?_)
      · refine (R_iconst zf124_37 zw_0 rfl).trans ?_
        exact R_ireturn zf124_38 (by rw [zr_124]; rfl)
      · refine (R_iconst zf124_33 zw_1 rfl).trans ?_
        refine (R_goto (t := 38) zf124_34 rfl).trans ?_
        exact R_ireturn zf124_38 (by rw [zr_124]; rfl)
-- CannonPost$Flight.leastPowder(LCannonPost$State;III)I at 0
theorem q125_0 (d : Nat) (x0 : Int) (x1 : Int) (x2 : Int) (h : MH) : Run (d + 1) 125 0 [.inr (.inr (.inl 8)), .inr (.inr (.inl 12)), .inl x0, .inl x1, .inl x2, vU, vU] [] h = (if 0 ≤ (wI ((wI (x0 * 8)) + x1)) ∧ (wI ((wI (x0 * 8)) + x1)) < 40 then (if (h 39 (wI ((wI (x0 * 8)) + x1)).toNat) = (wI ((wI ((wI ((wI ((wI ((wI ((h 6 2) + 1)) * 1000)) + (wI ((h 91 1) * 100)))) + (wI ((h 91 2) * 10)))) + (h 91 3))) + 1)) then (if 0 ≤ (wI ((wI ((wI ((wI (x0 * 8)) + x1)) * 8)) + x2)) ∧ (wI ((wI ((wI ((wI (x0 * 8)) + x1)) * 8)) + x2)) < 320 then some (some (.inl (h 38 (wI ((wI ((wI ((wI (x0 * 8)) + x1)) * 8)) + x2)).toNat)), h) else none) else (cV (Run d 126 0 [.inr (.inr (.inl 8)), .inr (.inr (.inl 12)), .inl x0, .inl x1, vU, vU, vU, vU, vU, vU] [] h) fun h4_ => (if 0 ≤ (wI ((wI (x0 * 8)) + x1)) ∧ (wI ((wI (x0 * 8)) + x1)) < 40 then (if 0 ≤ (wI ((wI ((wI ((wI (x0 * 8)) + x1)) * 8)) + x2)) ∧ (wI ((wI ((wI ((wI (x0 * 8)) + x1)) * 8)) + x2)) < 320 then some (some (.inl ((up h4_ 39 (wI ((wI (x0 * 8)) + x1)).toNat (wI ((wI ((wI ((wI ((wI ((wI ((h 6 2) + 1)) * 1000)) + (wI ((h 91 1) * 100)))) + (wI ((h 91 2) * 10)))) + (h 91 3))) + 1))) 38 (wI ((wI ((wI ((wI (x0 * 8)) + x1)) * 8)) + x2)).toNat)), (up h4_ 39 (wI ((wI (x0 * 8)) + x1)).toNat (wI ((wI ((wI ((wI ((wI ((wI ((h 6 2) + 1)) * 1000)) + (wI ((h 91 1) * 100)))) + (wI ((h 91 2) * 10)))) + (h 91 3))) + 1)))) else none) else none))) else none) := by
  refine (R_iload_n zf125_0 rfl rfl).trans ?_
  refine (R_bipush zf125_1 zb_8 rfl).trans ?_
  refine (R_imul zf125_3 rfl).trans ?_
  refine (R_iload_n zf125_4 rfl rfl).trans ?_
  refine (R_iadd zf125_5 rfl).trans ?_
  refine (R_istore (ls' := [.inr (.inr (.inl 8)), .inr (.inr (.inl 12)), .inl x0, .inl x1, .inl x2, .inl (wI ((wI (x0 * 8)) + x1)), vU]) zf125_6 (Nat.le_of_ble_eq_true rfl) rfl rfl).trans ?_
  refine (R_aload_n zf125_8 rfl zlt_8 rfl).trans ?_
  refine (R_getR zf125_9 zo_125 zfl_0_24 zk1_8 zft_0_1 zmr_8_1 rfl).trans ?_
  refine (R_getI zf125_12 zo_125 zfl_0_41 zk1_6 zft_4_2 rfl).trans ?_
  refine (R_iconst zf125_15 zw_1 rfl).trans ?_
  refine (R_iadd zf125_16 rfl).trans ?_
  refine (R_sipush zf125_17 zs_1000 rfl).trans ?_
  refine (R_imul zf125_20 rfl).trans ?_
  refine (R_aload_n zf125_21 rfl zlt_12 rfl).trans ?_
  refine (R_getR zf125_22 zo_125 zfl_0_66 zk1_12 zft_9_0 zmr_12_0 rfl).trans ?_
  refine (R_iconst zf125_25 zw_1 rfl).trans ?_
  refine (R_ialdc zf125_26 zk_91 (by decide) rfl rfl).trans ?_
  refine (R_bipush zf125_27 zb_100 rfl).trans ?_
  refine (R_imul zf125_29 rfl).trans ?_
  refine (R_iadd zf125_30 rfl).trans ?_
  refine (R_aload_n zf125_31 rfl zlt_12 rfl).trans ?_
  refine (R_getR zf125_32 zo_125 zfl_0_66 zk1_12 zft_9_0 zmr_12_0 rfl).trans ?_
  refine (R_iconst zf125_35 zw_2 rfl).trans ?_
  refine (R_ialdc zf125_36 zk_91 (by decide) rfl rfl).trans ?_
  refine (R_bipush zf125_37 zb_10 rfl).trans ?_
  refine (R_imul zf125_39 rfl).trans ?_
  refine (R_iadd zf125_40 rfl).trans ?_
  refine (R_aload_n zf125_41 rfl zlt_12 rfl).trans ?_
  refine (R_getR zf125_42 zo_125 zfl_0_66 zk1_12 zft_9_0 zmr_12_0 rfl).trans ?_
  refine (R_iconst zf125_45 zw_3 rfl).trans ?_
  refine (R_ialdc zf125_46 zk_91 (by decide) rfl rfl).trans ?_
  refine (R_iadd zf125_47 rfl).trans ?_
  refine (R_iconst zf125_48 zw_1 rfl).trans ?_
  refine (R_iadd zf125_49 rfl).trans ?_
  refine (R_istore (ls' := [.inr (.inr (.inl 8)), .inr (.inr (.inl 12)), .inl x0, .inl x1, .inl x2, .inl (wI ((wI (x0 * 8)) + x1)), .inl (wI ((wI ((wI ((wI ((wI ((wI ((h 6 2) + 1)) * 1000)) + (wI ((h 91 1) * 100)))) + (wI ((h 91 2) * 10)))) + (h 91 3))) + 1))]) zf125_50 (Nat.le_of_ble_eq_true rfl) rfl rfl).trans ?_
  refine (R_aload_n zf125_52 rfl zlt_8 rfl).trans ?_
  refine (R_getR zf125_53 zo_125 zfl_0_17 zk1_8 zft_0_3 zmr_8_3 rfl).trans ?_
  refine (R_iload zf125_56 rfl rfl).trans ?_
  refine (R_iald zf125_58 zk_39 rfl).trans ?_
  refine ite_congr rfl (fun c1_ => ?_) (fun _ => rfl)
  refine (R_iload zf125_59 rfl rfl).trans ?_
  refine (R_icmp_eq (t := 80) zf125_61 rfl rfl).trans ?_
  refine ite_congr rfl (fun c2_ => ?_) (fun c2_ => ?_)
  · refine (R_aload_n zf125_80 rfl zlt_8 rfl).trans ?_
    refine (R_getR zf125_81 zo_125 zfl_0_13 zk1_8 zft_0_2 zmr_8_2 rfl).trans ?_
    refine (R_iload zf125_84 rfl rfl).trans ?_
    refine (R_bipush zf125_86 zb_8 rfl).trans ?_
    refine (R_imul zf125_88 rfl).trans ?_
    refine (R_iload zf125_89 rfl rfl).trans ?_
    refine (R_iadd zf125_91 rfl).trans ?_
    refine (R_iald zf125_92 zk_38 rfl).trans ?_
    refine ite_congr rfl (fun c3_ => ?_) (fun _ => rfl)
    exact R_ireturn_i zf125_93 zr_125
  · refine (R_aload_n zf125_64 rfl zlt_8 rfl).trans ?_
    refine (R_aload_n zf125_65 rfl zlt_12 rfl).trans ?_
    refine (R_iload_n zf125_66 rfl rfl).trans ?_
    refine (R_iload_n zf125_67 rfl rfl).trans ?_
    refine (R_vcallV zf125_68 zo_125 zvl_0_85 zr_126 zl_126 (Nat.le_of_ble_eq_true rfl) rfl rfl (Nat.le_of_ble_eq_true rfl) (Nat.le_of_ble_eq_true rfl) (es := [.inr (.inr (.inl 8)), .inr (.inr (.inl 12)), .inl x0, .inl x1, vU, vU, vU, vU, vU, vU]) rfl rfl zk1_8 zo_126).trans ?_
    refine congrArg (cV _) (funext fun h4_ => ?_)
    refine (R_aload_n zf125_71 rfl zlt_8 rfl).trans ?_
    refine (R_getR zf125_72 zo_125 zfl_0_17 zk1_8 zft_0_3 zmr_8_3 rfl).trans ?_
    refine (R_iload zf125_75 rfl rfl).trans ?_
    refine (R_iload zf125_77 rfl rfl).trans ?_
    refine (R_iast zf125_79 zk_39 rfl).trans ?_
    refine ite_congr rfl (fun c5_ => ?_) (fun _ => rfl)
    refine (R_aload_n zf125_80 rfl zlt_8 rfl).trans ?_
    refine (R_getR zf125_81 zo_125 zfl_0_13 zk1_8 zft_0_2 zmr_8_2 rfl).trans ?_
    refine (R_iload zf125_84 rfl rfl).trans ?_
    refine (R_bipush zf125_86 zb_8 rfl).trans ?_
    refine (R_imul zf125_88 rfl).trans ?_
    refine (R_iload zf125_89 rfl rfl).trans ?_
    refine (R_iadd zf125_91 rfl).trans ?_
    refine (R_iald zf125_92 zk_38 rfl).trans ?_
    refine ite_congr rfl (fun c6_ => ?_) (fun _ => rfl)
    exact R_ireturn_i zf125_93 zr_125
-- CannonPost$Paths.trace(LCannonPost$State;II)V at 0
theorem q128_0 (d : Nat) (x0 : Int) (x1 : Int) (h : MH) : Run (d + 1) 128 0 [.inr (.inr (.inl 9)), .inr (.inr (.inl 12)), .inl x0, .inl x1, vU, vU, vU, vU] [] h = (cV (Run d 48 0 [.inr (.inr (.inl 40)), .inl (-1), vU, vU] [] h) fun h1_ => (if 0 ≤ x1 ∧ x1 < 8 then (if 0 ≤ x1 ∧ x1 < 8 then (if 0 ≤ x1 ∧ x1 < 8 then Run (d + 1) 128 32 [.inr (.inr (.inl 9)), .inr (.inr (.inl 12)), .inl x0, .inl x1, .inl 1, vU, vU, vU] [] (up (up (up h1_ 40 x1.toNat 0) 41 x1.toNat 0) 42 x1.toNat 0) else none) else none) else none)) := by
  refine (R_aload_n zf128_0 rfl zlt_9 rfl).trans ?_
  refine (R_getR zf128_1 zo_128 zfl_7_11 zk1_9 zft_7_0 zmr_9_0 rfl).trans ?_
  refine (R_iconst zf128_4 zw_m1 rfl).trans ?_
  refine (R_callV zf128_5 zo_128 zsl_7_37 zr_48 zl_48 (Nat.le_of_ble_eq_true rfl) rfl rfl (Nat.le_of_ble_eq_true rfl) (Nat.le_of_ble_eq_true rfl) (es := [.inr (.inr (.inl 40)), .inl (-1), vU, vU]) rfl rfl).trans ?_
  refine congrArg (cV _) (funext fun h1_ => ?_)
  refine (R_aload_n zf128_8 rfl zlt_9 rfl).trans ?_
  refine (R_getR zf128_9 zo_128 zfl_7_11 zk1_9 zft_7_0 zmr_9_0 rfl).trans ?_
  refine (R_iload_n zf128_12 rfl rfl).trans ?_
  refine (R_iconst zf128_13 zw_0 rfl).trans ?_
  refine (R_iast zf128_14 zk_40 rfl).trans ?_
  refine ite_congr rfl (fun c2_ => ?_) (fun _ => rfl)
  refine (R_aload_n zf128_15 rfl zlt_9 rfl).trans ?_
  refine (R_getR zf128_16 zo_128 zfl_7_17 zk1_9 zft_7_1 zmr_9_1 rfl).trans ?_
  refine (R_iload_n zf128_19 rfl rfl).trans ?_
  refine (R_iconst zf128_20 zw_0 rfl).trans ?_
  refine (R_iast zf128_21 zk_41 rfl).trans ?_
  refine ite_congr rfl (fun c3_ => ?_) (fun _ => rfl)
  refine (R_aload_n zf128_22 rfl zlt_9 rfl).trans ?_
  refine (R_getR zf128_23 zo_128 zfl_7_20 zk1_9 zft_7_2 zmr_9_2 rfl).trans ?_
  refine (R_iload_n zf128_26 rfl rfl).trans ?_
  refine (R_iconst zf128_27 zw_0 rfl).trans ?_
  refine (R_iast zf128_28 zk_42 rfl).trans ?_
  refine ite_congr rfl (fun c4_ => ?_) (fun _ => rfl)
  refine (R_iconst zf128_29 zw_1 rfl).trans ?_
  refine (R_istore (ls' := [.inr (.inr (.inl 9)), .inr (.inr (.inl 12)), .inl x0, .inl x1, .inl 1, vU, vU, vU]) zf128_30 (Nat.le_of_ble_eq_true rfl) rfl rfl).trans ?_
  rfl
-- CannonPost.isNews(I)Z at 0
theorem q92_0 (d : Nat) (x0 : Int) (h : MH) : Run d 92 0 [.inl x0] [] h = (if x0 < 0 then some (some (.inl 0), h) else (if 6 ≤ x0 then some (some (.inl 0), h) else some (some (.inl 1), h))) := by
  refine (R_iload_n zf92_0 rfl rfl).trans ?_
  refine (R_if_lt (t := 14) zf92_1 rfl rfl).trans ?_
  refine ite_congr rfl (fun c1_ => ?_) (fun c1_ => ?_)
  · refine (R_iconst zf92_14 zw_0 rfl).trans ?_
    exact R_ireturn zf92_15 (by rw [zr_92]; rfl)
  · refine (R_iload_n zf92_4 rfl rfl).trans ?_
    refine (R_bipush zf92_5 zb_6 rfl).trans ?_
    refine (R_icmp_ge (t := 14) zf92_7 rfl rfl).trans ?_
    refine ite_congr rfl (fun c2_ => ?_) (fun c2_ => ?_)
    · refine (R_iconst zf92_14 zw_0 rfl).trans ?_
      exact R_ireturn zf92_15 (by rw [zr_92]; rfl)
    · refine (R_iconst zf92_10 zw_1 rfl).trans ?_
      refine (R_goto (t := 15) zf92_11 rfl).trans ?_
      exact R_ireturn zf92_15 (by rw [zr_92]; rfl)
-- CannonPost$State.fortsKnowing(II)I at 0
theorem q131_0 (d : Nat) (x0 : Int) (x1 : Int) (h : MH) : Run d 131 0 [.inr (.inr (.inl 12)), .inl x0, .inl x1, vU, vU] [] h = Run d 131 5 [.inr (.inr (.inl 12)), .inl x0, .inl x1, .inl 0, .inl 0] [] h := by
  refine (R_iconst zf131_0 zw_0 rfl).trans ?_
  refine (R_istore_n (ls' := [.inr (.inr (.inl 12)), .inl x0, .inl x1, .inl 0, vU]) zf131_1 (Nat.le_of_ble_eq_true rfl) rfl rfl).trans ?_
  refine (R_iconst zf131_2 zw_0 rfl).trans ?_
  refine (R_istore (ls' := [.inr (.inr (.inl 12)), .inl x0, .inl x1, .inl 0, .inl 0]) zf131_3 (Nat.le_of_ble_eq_true rfl) rfl rfl).trans ?_
  rfl
-- CannonPost$Paths.bestRelay(LCannonPost$State;II)I at 0
theorem q132_0 (d : Nat) (x0 : Int) (x1 : Int) (h : MH) : Run (d + 1) 132 0 [.inr (.inr (.inl 9)), .inr (.inr (.inl 12)), .inl x0, .inl x1, vU, vU] [] h = (if (iAnd (iShr x0 x1) 1) = 0 then Run (d + 1) 132 28 [.inr (.inr (.inl 9)), .inr (.inr (.inl 12)), .inl x0, .inl x1, .inl 1, vU] [] (cpy h (h 91) 44 6 0 5) else some (some (.inl 0), h)) := by
  refine (R_iload_n zf132_0 rfl rfl).trans ?_
  refine (R_iload_n zf132_1 rfl rfl).trans ?_
  refine (R_ishr zf132_2 rfl).trans ?_
  refine (R_iconst zf132_3 zw_1 rfl).trans ?_
  refine (R_iand zf132_4 rfl).trans ?_
  refine (R_if_eq (t := 10) zf132_5 rfl rfl).trans ?_
  refine ite_congr rfl (fun c1_ => ?_) (fun c1_ => ?_)
  · refine (R_aload_n zf132_10 rfl zlt_12 rfl).trans ?_
    refine (R_getR zf132_11 zo_132 zfl_7_57 zk1_12 zft_9_0 zmr_12_0 rfl).trans ?_
    refine (R_bipush zf132_14 zb_6 rfl).trans ?_
    refine (R_aload_n zf132_16 rfl zlt_9 rfl).trans ?_
    refine (R_getR zf132_17 zo_132 zfl_7_26 zk1_9 zft_7_4 zmr_9_4 rfl).trans ?_
    refine (R_iconst zf132_20 zw_0 rfl).trans ?_
    refine (R_iconst zf132_21 zw_5 rfl).trans ?_
    refine ((R_acpy zf132_22 zo_132 zsl_7_62 zal_7_62 zk_91 zk_44 (Nat.le_of_ble_eq_true rfl) rfl).trans (if_pos (by decide))).trans ?_
    refine (R_iconst zf132_25 zw_1 rfl).trans ?_
    refine (R_istore (ls' := [.inr (.inr (.inl 9)), .inr (.inr (.inl 12)), .inl x0, .inl x1, .inl 1, vU]) zf132_26 (Nat.le_of_ble_eq_true rfl) rfl rfl).trans ?_
    rfl
  · refine (R_iconst zf132_8 zw_0 rfl).trans ?_
    exact R_ireturn_i zf132_9 zr_132
-- CannonPost.partsRight(III)I at 0
theorem q136_0 (d : Nat) (x0 : Int) (x1 : Int) (x2 : Int) (h : MH) : Run (d + 1) 136 0 [.inr (.inr (.inl 0)), .inl x0, .inl x1, .inl x2, vU, vU, vU] [] h = (cV (Run d 128 0 [.inr (.inr (.inl 9)), .inr (.inr (.inl 12)), .inl x0, .inl x1, vU, vU, vU, vU] [] h) fun h1_ => (if 0 ≤ x2 ∧ x2 < 8 then (if ¬ (h1_ 40 x2.toNat) = (-1) then Run (d + 1) 136 36 [.inr (.inr (.inl 0)), .inl x0, .inl x1, .inl x2, .inr (.inl 1000000000), vU, .inl 0] [] h1_ else some (some (.inl (-1)), h1_)) else none)) := by
  refine (R_aload_n zf136_0 rfl zlt_0 rfl).trans ?_
  refine (R_getR zf136_1 zo_136 zfl_11_67 zk1_0 zft_11_7 zmr_0_7 rfl).trans ?_
  refine (R_aload_n zf136_4 rfl zlt_0 rfl).trans ?_
  refine (R_getR zf136_5 zo_136 zfl_11_88 zk1_0 zft_11_10 zmr_0_10 rfl).trans ?_
  refine (R_iload_n zf136_8 rfl rfl).trans ?_
  refine (R_iload_n zf136_9 rfl rfl).trans ?_
  refine (R_vcallV zf136_10 zo_136 zvl_11_341 zr_128 zl_128 (Nat.le_of_ble_eq_true rfl) rfl rfl (Nat.le_of_ble_eq_true rfl) (Nat.le_of_ble_eq_true rfl) (es := [.inr (.inr (.inl 9)), .inr (.inr (.inl 12)), .inl x0, .inl x1, vU, vU, vU, vU]) rfl rfl zk1_9 zo_128).trans ?_
  refine congrArg (cV _) (funext fun h1_ => ?_)
  refine (R_aload_n zf136_13 rfl zlt_0 rfl).trans ?_
  refine (R_getR zf136_14 zo_136 zfl_11_67 zk1_0 zft_11_7 zmr_0_7 rfl).trans ?_
  refine (R_getR zf136_17 zo_136 zfl_11_344 zk1_9 zft_7_0 zmr_9_0 rfl).trans ?_
  refine (R_iload_n zf136_20 rfl rfl).trans ?_
  refine (R_iald zf136_21 zk_40 rfl).trans ?_
  refine ite_congr rfl (fun c2_ => ?_) (fun _ => rfl)
  refine (R_iconst zf136_22 zw_m1 rfl).trans ?_
  refine (R_icmp_ne (t := 28) zf136_23 rfl rfl).trans ?_
  refine ite_congr rfl (fun c3_ => ?_) (fun c3_ => ?_)
  · refine (R_ldc2_w zf136_28 zo_136 zll_11_363 rfl).trans ?_
    refine (R_lstore (ls' := [.inr (.inr (.inl 0)), .inl x0, .inl x1, .inl x2, .inr (.inl 1000000000), vU, vU]) zf136_31 (Nat.le_of_ble_eq_true rfl) rfl rfl).trans ?_
    refine (R_iconst zf136_33 zw_0 rfl).trans ?_
    refine (R_istore (ls' := [.inr (.inr (.inl 0)), .inl x0, .inl x1, .inl x2, .inr (.inl 1000000000), vU, .inl 0]) zf136_34 (Nat.le_of_ble_eq_true rfl) rfl rfl).trans ?_
    rfl
  · refine (R_iconst zf136_26 zw_m1 rfl).trans ?_
    exact R_ireturn_i zf136_27 zr_136
-- CannonPost.surest(II)I at 32
theorem q137_32 (d : Nat) (x0 : Int) (x1 : Int) (x2 : Int) (x3 : Int) (x4 : Int) (z5 : MV) (hz5 : cat z5 = 1) (h : MH) : Run (d + 1) 137 32 [.inr (.inr (.inl 0)), .inl x0, .inl x1, .inl x2, .inl x3, .inl x4, z5] [] h = (if (h 2 4) ≤ x4 then some (some (.inl x2), h) else (cI (Run d 136 0 [.inr (.inr (.inl 0)), .inl x4, .inl x0, .inl x1, vU, vU, vU] [] h) fun a3_ h2_ => (if a3_ ≤ x3 then Run (d + 1) 137 32 [.inr (.inr (.inl 0)), .inl x0, .inl x1, .inl x2, .inl x3, .inl (wI (x4 + 1)), .inl a3_] [] h2_ else Run (d + 1) 137 32 [.inr (.inr (.inl 0)), .inl x0, .inl x1, .inl x4, .inl a3_, .inl (wI (x4 + 1)), .inl a3_] [] h2_))) := by
  refine (R_iload zf137_32 rfl rfl).trans ?_
  refine (R_aload_n zf137_34 rfl zlt_0 rfl).trans ?_
  refine (R_getR zf137_35 zo_137 zfl_11_19 zk1_0 zft_11_1 zmr_0_1 rfl).trans ?_
  refine (R_getI zf137_38 zo_137 zfl_11_205 zk1_2 zft_5_4 rfl).trans ?_
  refine (R_icmp_ge (t := 74) zf137_41 rfl rfl).trans ?_
  refine ite_congr rfl (fun c1_ => ?_) (fun c1_ => ?_)
  · refine (R_iload_n zf137_74 rfl rfl).trans ?_
    exact R_ireturn_i zf137_75 zr_137
  · refine (R_aload_n zf137_44 rfl zlt_0 rfl).trans ?_
    refine (R_iload zf137_45 rfl rfl).trans ?_
    refine (R_iload_n zf137_47 rfl rfl).trans ?_
    refine (R_iload_n zf137_48 rfl rfl).trans ?_
    refine (R_vcallI zf137_49 zo_137 zvl_11_360 (by rw [zr_136]; rfl) zl_136 (Nat.le_of_ble_eq_true rfl) rfl rfl (Nat.le_of_ble_eq_true rfl) (Nat.le_of_ble_eq_true rfl) (es := [.inr (.inr (.inl 0)), .inl x4, .inl x0, .inl x1, vU, vU, vU]) rfl rfl zk1_0 zo_136).trans ?_
    refine congrArg (cI _) (funext fun a3_ => funext fun h2_ => ?_)
    refine (R_istore (ls' := [.inr (.inr (.inl 0)), .inl x0, .inl x1, .inl x2, .inl x3, .inl x4, .inl a3_]) zf137_52 (Nat.le_of_ble_eq_true rfl) rfl rfl).trans ?_
    refine (R_iload zf137_54 rfl rfl).trans ?_
    refine (R_iload zf137_56 rfl rfl).trans ?_
    refine (R_icmp_le (t := 68) zf137_58 rfl rfl).trans ?_
    refine ite_congr rfl (fun c4_ => ?_) (fun c4_ => ?_)
    · refine (R_iinc (ls' := [.inr (.inr (.inl 0)), .inl x0, .inl x1, .inl x2, .inl x3, .inl (wI (x4 + 1)), .inl a3_]) zf137_68 rfl rfl rfl).trans ?_
      refine (R_goto (t := 32) zf137_71 rfl).trans ?_
      rfl
    · refine (R_iload zf137_61 rfl rfl).trans ?_
      refine (R_istore (ls' := [.inr (.inr (.inl 0)), .inl x0, .inl x1, .inl x2, .inl a3_, .inl x4, .inl a3_]) zf137_63 (Nat.le_of_ble_eq_true rfl) rfl rfl).trans ?_
      refine (R_iload zf137_65 rfl rfl).trans ?_
      refine (R_istore_n (ls' := [.inr (.inr (.inl 0)), .inl x0, .inl x1, .inl x4, .inl a3_, .inl x4, .inl a3_]) zf137_67 (Nat.le_of_ble_eq_true rfl) rfl rfl).trans ?_
      refine (R_iinc (ls' := [.inr (.inr (.inl 0)), .inl x0, .inl x1, .inl x4, .inl a3_, .inl (wI (x4 + 1)), .inl a3_]) zf137_68 rfl rfl rfl).trans ?_
      refine (R_goto (t := 32) zf137_71 rfl).trans ?_
      rfl
-- CannonPost$Paths.link(LCannonPost$State;)V at 0
theorem q139_0 (d : Nat) (h : MH) : Run (d + 1) 139 0 [.inr (.inr (.inl 9)), .inr (.inr (.inl 12)), vU, vU, vU] [] h = Run (d + 1) 139 2 [.inr (.inr (.inl 9)), .inr (.inr (.inl 12)), .inl 0, vU, vU] [] h := by
  refine (R_iconst zf139_0 zw_0 rfl).trans ?_
  refine (R_istore_n (ls' := [.inr (.inr (.inl 9)), .inr (.inr (.inl 12)), .inl 0, vU, vU]) zf139_1 (Nat.le_of_ble_eq_true rfl) rfl rfl).trans ?_
  rfl
-- CannonPost$Paths.netFrom(II)I at 0
theorem q140_0 (d : Nat) (x0 : Int) (x1 : Int) (h : MH) : Run d 140 0 [.inr (.inr (.inl 9)), .inl x0, .inl x1, vU, vU, vU, vU] [] h = (if ¬ x1 = (-1) then Run d 140 21 [.inr (.inr (.inl 9)), .inl x0, .inl x1, .inl (iShl 1 x1), .inl (iShl 1 x0), .inl 1, vU] [] h else Run d 140 21 [.inr (.inr (.inl 9)), .inl x0, .inl x1, .inl 0, .inl (iShl 1 x0), .inl 1, vU] [] h) := by
  refine (R_iload_n zf140_0 rfl rfl).trans ?_
  refine (R_iconst zf140_1 zw_m1 rfl).trans ?_
  refine (R_icmp_ne (t := 9) zf140_2 rfl rfl).trans ?_
  refine ite_congr rfl (fun c1_ => ?_) (fun c1_ => ?_)
  · refine (R_iconst zf140_9 zw_1 rfl).trans ?_
    refine (R_iload_n zf140_10 rfl rfl).trans ?_
    refine (R_ishl zf140_11 rfl).trans ?_
    refine (R_istore_n (ls' := [.inr (.inr (.inl 9)), .inl x0, .inl x1, .inl (iShl 1 x1), vU, vU, vU]) zf140_12 (Nat.le_of_ble_eq_true rfl) rfl rfl).trans ?_
    refine (R_iconst zf140_13 zw_1 rfl).trans ?_
    refine (R_iload_n zf140_14 rfl rfl).trans ?_
    refine (R_ishl zf140_15 rfl).trans ?_
    refine (R_istore (ls' := [.inr (.inr (.inl 9)), .inl x0, .inl x1, .inl (iShl 1 x1), .inl (iShl 1 x0), vU, vU]) zf140_16 (Nat.le_of_ble_eq_true rfl) rfl rfl).trans ?_
    refine (R_iconst zf140_18 zw_1 rfl).trans ?_
    refine (R_istore (ls' := [.inr (.inr (.inl 9)), .inl x0, .inl x1, .inl (iShl 1 x1), .inl (iShl 1 x0), .inl 1, vU]) zf140_19 (Nat.le_of_ble_eq_true rfl) rfl rfl).trans ?_
    rfl
  · refine (R_iconst zf140_5 zw_0 rfl).trans ?_
    refine (R_goto (t := 12) zf140_6 rfl).trans ?_
    refine (R_istore_n (ls' := [.inr (.inr (.inl 9)), .inl x0, .inl x1, .inl 0, vU, vU, vU]) zf140_12 (Nat.le_of_ble_eq_true rfl) rfl rfl).trans ?_
    refine (R_iconst zf140_13 zw_1 rfl).trans ?_
    refine (R_iload_n zf140_14 rfl rfl).trans ?_
    refine (R_ishl zf140_15 rfl).trans ?_
    refine (R_istore (ls' := [.inr (.inr (.inl 9)), .inl x0, .inl x1, .inl 0, .inl (iShl 1 x0), vU, vU]) zf140_16 (Nat.le_of_ble_eq_true rfl) rfl rfl).trans ?_
    refine (R_iconst zf140_18 zw_1 rfl).trans ?_
    refine (R_istore (ls' := [.inr (.inr (.inl 9)), .inl x0, .inl x1, .inl 0, .inl (iShl 1 x0), .inl 1, vU]) zf140_19 (Nat.le_of_ble_eq_true rfl) rfl rfl).trans ?_
    rfl
-- CannonPost.cuts()I at 37
theorem q138_37 (d : Nat) (x0 : Int) (x1 : Int) (x2 : Int) (h : MH) : Run (d + 1) 138 37 [.inr (.inr (.inl 0)), .inl x0, .inl x1, .inl x2] [] h = (if (h 2 3) ≤ x2 then some (some (.inl x1), h) else (cI (Run d 140 0 [.inr (.inr (.inl 9)), .inl 0, .inl x2, vU, vU, vU, vU] [] h) fun a3_ h2_ => (if (iAnd (iAnd x0 (iXor a3_ (-1))) (iXor (iShl 1 x2) (-1))) = 0 then Run (d + 1) 138 37 [.inr (.inr (.inl 0)), .inl x0, .inl x1, .inl (wI (x2 + 1))] [] h2_ else Run (d + 1) 138 37 [.inr (.inr (.inl 0)), .inl x0, .inl (iOr x1 (iShl 1 x2)), .inl (wI (x2 + 1))] [] h2_))) := by
  refine (R_iload_n zf138_37 rfl rfl).trans ?_
  refine (R_aload_n zf138_38 rfl zlt_0 rfl).trans ?_
  refine (R_getR zf138_39 zo_138 zfl_11_19 zk1_0 zft_11_1 zmr_0_1 rfl).trans ?_
  refine (R_getI zf138_42 zo_138 zfl_11_119 zk1_2 zft_5_3 rfl).trans ?_
  refine (R_icmp_ge (t := 82) zf138_45 rfl rfl).trans ?_
  refine ite_congr rfl (fun c1_ => ?_) (fun c1_ => ?_)
  · refine (R_iload_n zf138_82 rfl rfl).trans ?_
    exact R_ireturn_i zf138_83 zr_138
  · refine (R_iload_n zf138_48 rfl rfl).trans ?_
    refine (R_aload_n zf138_49 rfl zlt_0 rfl).trans ?_
    refine (R_getR zf138_50 zo_138 zfl_11_67 zk1_0 zft_11_7 zmr_0_7 rfl).trans ?_
    refine (R_iconst zf138_53 zw_0 rfl).trans ?_
    refine (R_iload_n zf138_54 rfl rfl).trans ?_
    refine (R_vcallI zf138_55 zo_138 zvl_11_370 (by rw [zr_140]; rfl) zl_140 (Nat.le_of_ble_eq_true rfl) rfl rfl (Nat.le_of_ble_eq_true rfl) (Nat.le_of_ble_eq_true rfl) (es := [.inr (.inr (.inl 9)), .inl 0, .inl x2, vU, vU, vU, vU]) rfl rfl zk1_9 zo_140).trans ?_
    refine congrArg (cI _) (funext fun a3_ => funext fun h2_ => ?_)
    refine (R_iconst zf138_58 zw_m1 rfl).trans ?_
    refine (R_ixor zf138_59 rfl).trans ?_
    refine (R_iand zf138_60 rfl).trans ?_
    refine (R_iconst zf138_61 zw_1 rfl).trans ?_
    refine (R_iload_n zf138_62 rfl rfl).trans ?_
    refine (R_ishl zf138_63 rfl).trans ?_
    refine (R_iconst zf138_64 zw_m1 rfl).trans ?_
    refine (R_ixor zf138_65 rfl).trans ?_
    refine (R_iand zf138_66 rfl).trans ?_
    refine (R_if_eq (t := 76) zf138_67 rfl rfl).trans ?_
    refine ite_congr rfl (fun c4_ => ?_) (fun c4_ => ?_)
    · refine (R_iinc (ls' := [.inr (.inr (.inl 0)), .inl x0, .inl x1, .inl (wI (x2 + 1))]) zf138_76 rfl rfl rfl).trans ?_
      refine (R_goto (t := 37) zf138_79 rfl).trans ?_
      rfl
    · refine (R_iload_n zf138_70 rfl rfl).trans ?_
      refine (R_iconst zf138_71 zw_1 rfl).trans ?_
      refine (R_iload_n zf138_72 rfl rfl).trans ?_
      refine (R_ishl zf138_73 rfl).trans ?_
      refine (R_ior zf138_74 rfl).trans ?_
      refine (R_istore_n (ls' := [.inr (.inr (.inl 0)), .inl x0, .inl (iOr x1 (iShl 1 x2)), .inl x2]) zf138_75 (Nat.le_of_ble_eq_true rfl) rfl rfl).trans ?_
      refine (R_iinc (ls' := [.inr (.inr (.inl 0)), .inl x0, .inl (iOr x1 (iShl 1 x2)), .inl (wI (x2 + 1))]) zf138_76 rfl rfl rfl).trans ?_
      refine (R_goto (t := 37) zf138_79 rfl).trans ?_
      rfl
-- CannonPost.landsWithMore(IIIII)Z at 0
theorem q143_0 (d : Nat) (x0 : Int) (x1 : Int) (x2 : Int) (x3 : Int) (x4 : Int) (h : MH) : Run (d + 1) 143 0 [.inr (.inr (.inl 0)), .inl x0, .inl x1, .inl x2, .inl x3, .inl x4, vU, vU] [] h = (cI (Run d 80 0 [.inl (wI ((h 91 1) + x0)), .inl (h 91 2), .inl x4] [] h) fun a2_ h1_ => (cI (Run d 81 0 [.inr (.inr (.inl 8)), .inl x1, .inl x2, .inl x3, .inl a2_, .inl (h1_ 91 3), vU, vU, vU] [] h1_) fun a4_ h3_ => (cI (Run d 18 0 [.inr (.inr (.inl 2)), .inl x2] [] h3_) fun a6_ h5_ => (cI (Run d 86 0 [.inl a6_, .inl a4_, .inl x4] [] h5_) fun a8_ h7_ => (cI (Run d 87 0 [.inr (.inr (.inl 2)), .inl a8_, vU, vU, vU] [] h7_) fun a10_ h9_ => (if a10_ = (-1) then some (some (.inl 0), h9_) else some (some (.inl 1), h9_))))))) := by
  refine (R_aload_n zf143_0 rfl zlt_0 rfl).trans ?_
  refine (R_getR zf143_1 zo_143 zfl_11_88 zk1_0 zft_11_10 zmr_0_10 rfl).trans ?_
  refine (R_getR zf143_4 zo_143 zfl_11_162 zk1_12 zft_9_0 zmr_12_0 rfl).trans ?_
  refine (R_iconst zf143_7 zw_1 rfl).trans ?_
  refine (R_ialdc zf143_8 zk_91 (by decide) rfl rfl).trans ?_
  refine (R_iload_n zf143_9 rfl rfl).trans ?_
  refine (R_iadd zf143_10 rfl).trans ?_
  refine (R_aload_n zf143_11 rfl zlt_0 rfl).trans ?_
  refine (R_getR zf143_12 zo_143 zfl_11_88 zk1_0 zft_11_10 zmr_0_10 rfl).trans ?_
  refine (R_getR zf143_15 zo_143 zfl_11_162 zk1_12 zft_9_0 zmr_12_0 rfl).trans ?_
  refine (R_iconst zf143_18 zw_2 rfl).trans ?_
  refine (R_ialdc zf143_19 zk_91 (by decide) rfl rfl).trans ?_
  refine (R_iload zf143_20 rfl rfl).trans ?_
  refine (R_callI zf143_22 zo_143 zsl_11_377 (by rw [zr_80]; rfl) zl_80 (Nat.le_of_ble_eq_true rfl) rfl rfl (Nat.le_of_ble_eq_true rfl) (Nat.le_of_ble_eq_true rfl) (es := [.inl (wI ((h 91 1) + x0)), .inl (h 91 2), .inl x4]) rfl rfl).trans ?_
  refine congrArg (cI _) (funext fun a2_ => funext fun h1_ => ?_)
  refine (R_istore (ls' := [.inr (.inr (.inl 0)), .inl x0, .inl x1, .inl x2, .inl x3, .inl x4, .inl a2_, vU]) zf143_25 (Nat.le_of_ble_eq_true rfl) rfl rfl).trans ?_
  refine (R_aload_n zf143_27 rfl zlt_0 rfl).trans ?_
  refine (R_getR zf143_28 zo_143 zfl_11_58 zk1_0 zft_11_6 zmr_0_6 rfl).trans ?_
  refine (R_iload_n zf143_31 rfl rfl).trans ?_
  refine (R_iload_n zf143_32 rfl rfl).trans ?_
  refine (R_iload zf143_33 rfl rfl).trans ?_
  refine (R_iload zf143_35 rfl rfl).trans ?_
  refine (R_aload_n zf143_37 rfl zlt_0 rfl).trans ?_
  refine (R_getR zf143_38 zo_143 zfl_11_88 zk1_0 zft_11_10 zmr_0_10 rfl).trans ?_
  refine (R_getR zf143_41 zo_143 zfl_11_162 zk1_12 zft_9_0 zmr_12_0 rfl).trans ?_
  refine (R_iconst zf143_44 zw_3 rfl).trans ?_
  refine (R_ialdc zf143_45 zk_91 (by decide) rfl rfl).trans ?_
  refine (R_vcallI zf143_46 zo_143 zvl_11_380 (by rw [zr_81]; rfl) zl_81 (Nat.le_of_ble_eq_true rfl) rfl rfl (Nat.le_of_ble_eq_true rfl) (Nat.le_of_ble_eq_true rfl) (es := [.inr (.inr (.inl 8)), .inl x1, .inl x2, .inl x3, .inl a2_, .inl (h1_ 91 3), vU, vU, vU]) rfl rfl zk1_8 zo_81).trans ?_
  refine congrArg (cI _) (funext fun a4_ => funext fun h3_ => ?_)
  refine (R_istore (ls' := [.inr (.inr (.inl 0)), .inl x0, .inl x1, .inl x2, .inl x3, .inl x4, .inl a2_, .inl a4_]) zf143_49 (Nat.le_of_ble_eq_true rfl) rfl rfl).trans ?_
  refine (R_aload_n zf143_51 rfl zlt_0 rfl).trans ?_
  refine (R_getR zf143_52 zo_143 zfl_11_19 zk1_0 zft_11_1 zmr_0_1 rfl).trans ?_
  refine (R_aload_n zf143_55 rfl zlt_0 rfl).trans ?_
  refine (R_getR zf143_56 zo_143 zfl_11_19 zk1_0 zft_11_1 zmr_0_1 rfl).trans ?_
  refine (R_iload_n zf143_59 rfl rfl).trans ?_
  refine (R_vcallI zf143_60 zo_143 zvl_11_172 (by rw [zr_18]; rfl) zl_18 (Nat.le_of_ble_eq_true rfl) rfl rfl (Nat.le_of_ble_eq_true rfl) (Nat.le_of_ble_eq_true rfl) (es := [.inr (.inr (.inl 2)), .inl x2]) rfl rfl zk1_2 zo_18).trans ?_
  refine congrArg (cI _) (funext fun a6_ => funext fun h5_ => ?_)
  refine (R_iload zf143_63 rfl rfl).trans ?_
  refine (R_iload zf143_65 rfl rfl).trans ?_
  refine (R_callI zf143_67 zo_143 zsl_11_384 (by rw [zr_86]; rfl) zl_86 (Nat.le_of_ble_eq_true rfl) rfl rfl (Nat.le_of_ble_eq_true rfl) (Nat.le_of_ble_eq_true rfl) (es := [.inl a6_, .inl a4_, .inl x4]) rfl rfl).trans ?_
  refine congrArg (cI _) (funext fun a8_ => funext fun h7_ => ?_)
  refine (R_vcallI zf143_70 zo_143 zvl_11_282 (by rw [zr_87]; rfl) zl_87 (Nat.le_of_ble_eq_true rfl) rfl rfl (Nat.le_of_ble_eq_true rfl) (Nat.le_of_ble_eq_true rfl) (es := [.inr (.inr (.inl 2)), .inl a8_, vU, vU, vU]) rfl rfl zk1_2 zo_87).trans ?_
  refine congrArg (cI _) (funext fun a10_ => funext fun h9_ => ?_)
  refine (R_iconst zf143_73 zw_m1 rfl).trans ?_
  refine (R_icmp_eq (t := 81) zf143_74 rfl rfl).trans ?_
  refine ite_congr rfl (fun c11_ => ?_) (fun c11_ => ?_)
  · refine (R_iconst zf143_81 zw_0 rfl).trans ?_
    exact R_ireturn zf143_82 (by rw [zr_143]; rfl)
  · refine (R_iconst zf143_77 zw_1 rfl).trans ?_
    refine (R_goto (t := 82) zf143_78 rfl).trans ?_
    exact R_ireturn zf143_82 (by rw [zr_143]; rfl)
-- CannonPost.gusts(IIIII)I at 48
theorem q142_48 (d : Nat) (x0 : Int) (x1 : Int) (x2 : Int) (x3 : Int) (x4 : Int) (z5 : MV) (hz5 : cat z5 = 1) (z6 : MV) (hz6 : cat z6 = 1) (y7 : Int) (h : MH) : Run (d + 1) 142 48 [.inr (.inr (.inl 0)), .inl x0, .inl x1, .inl x2, .inl x3, .inl x4, z5, z6] [.inl y7] h = (cI (Run d 143 0 [.inr (.inr (.inl 0)), .inl 3, .inl x0, .inl x1, .inl x2, .inl x3, vU, vU] [] h) fun a2_ h1_ => (if a2_ = 0 then some (some (.inl (wI (y7 + 0))), h1_) else some (some (.inl (wI (y7 + x4))), h1_))) := by
  refine (R_istore (ls' := [.inr (.inr (.inl 0)), .inl x0, .inl x1, .inl x2, .inl x3, .inl x4, .inl y7, z6]) zf142_48 (Nat.le_of_ble_eq_true rfl) rfl rfl).trans ?_
  refine (R_aload_n zf142_50 rfl zlt_0 rfl).trans ?_
  refine (R_iconst zf142_51 zw_3 rfl).trans ?_
  refine (R_iload_n zf142_52 rfl rfl).trans ?_
  refine (R_iload_n zf142_53 rfl rfl).trans ?_
  refine (R_iload_n zf142_54 rfl rfl).trans ?_
  refine (R_iload zf142_55 rfl rfl).trans ?_
  refine (R_vcallI zf142_57 zo_142 zvl_11_373 (by rw [zr_143]; rfl) zl_143 (Nat.le_of_ble_eq_true rfl) rfl rfl (Nat.le_of_ble_eq_true rfl) (Nat.le_of_ble_eq_true rfl) (es := [.inr (.inr (.inl 0)), .inl 3, .inl x0, .inl x1, .inl x2, .inl x3, vU, vU]) rfl rfl zk1_0 zo_143).trans ?_
  refine congrArg (cI _) (funext fun a2_ => funext fun h1_ => ?_)
  refine (R_if_eq (t := 68) zf142_60 rfl rfl).trans ?_
  refine ite_congr rfl (fun c3_ => ?_) (fun c3_ => ?_)
  · refine (R_iconst zf142_68 zw_0 rfl).trans ?_
    refine (R_istore (ls' := [.inr (.inr (.inl 0)), .inl x0, .inl x1, .inl x2, .inl x3, .inl x4, .inl y7, .inl 0]) zf142_69 (Nat.le_of_ble_eq_true rfl) rfl rfl).trans ?_
    refine (R_iload zf142_71 rfl rfl).trans ?_
    refine (R_iload zf142_73 rfl rfl).trans ?_
    refine (R_iadd zf142_75 rfl).trans ?_
    exact R_ireturn_i zf142_76 zr_142
  · refine (R_iload zf142_63 rfl rfl).trans ?_
    refine (R_goto (t := 69) zf142_65 rfl).trans ?_
    refine (R_istore (ls' := [.inr (.inr (.inl 0)), .inl x0, .inl x1, .inl x2, .inl x3, .inl x4, .inl y7, .inl x4]) zf142_69 (Nat.le_of_ble_eq_true rfl) rfl rfl).trans ?_
    refine (R_iload zf142_71 rfl rfl).trans ?_
    refine (R_iload zf142_73 rfl rfl).trans ?_
    refine (R_iadd zf142_75 rfl).trans ?_
    exact R_ireturn_i zf142_76 zr_142
-- CannonPost.isPair(II)Z at 0
theorem q145_0 (d : Nat) (x0 : Int) (x1 : Int) (h : MH) : Run (d + 1) 145 0 [.inr (.inr (.inl 0)), .inl x0, .inl x1] [] h = (cI (Run d 72 0 [.inr (.inr (.inl 2)), .inl x0] [] h) fun a2_ h1_ => (if a2_ = 0 then some (some (.inl 0), h1_) else (cI (Run d 72 0 [.inr (.inr (.inl 2)), .inl x1] [] h1_) fun a5_ h4_ => (if a5_ = 0 then some (some (.inl 0), h4_) else (if x0 = x1 then some (some (.inl 0), h4_) else some (some (.inl 1), h4_)))))) := by
  refine (R_aload_n zf145_0 rfl zlt_0 rfl).trans ?_
  refine (R_getR zf145_1 zo_145 zfl_11_19 zk1_0 zft_11_1 zmr_0_1 rfl).trans ?_
  refine (R_iload_n zf145_4 rfl rfl).trans ?_
  refine (R_vcallI zf145_5 zo_145 zvl_11_178 (by rw [zr_72]; rfl) zl_72 (Nat.le_of_ble_eq_true rfl) rfl rfl (Nat.le_of_ble_eq_true rfl) (Nat.le_of_ble_eq_true rfl) (es := [.inr (.inr (.inl 2)), .inl x0]) rfl rfl zk1_2 zo_72).trans ?_
  refine congrArg (cI _) (funext fun a2_ => funext fun h1_ => ?_)
  refine (R_if_eq (t := 31) zf145_8 rfl rfl).trans ?_
  refine ite_congr rfl (fun c3_ => ?_) (fun c3_ => ?_)
  · refine (R_iconst zf145_31 zw_0 rfl).trans ?_
    exact R_ireturn zf145_32 (by rw [zr_145]; rfl)
  · refine (R_aload_n zf145_11 rfl zlt_0 rfl).trans ?_
    refine (R_getR zf145_12 zo_145 zfl_11_19 zk1_0 zft_11_1 zmr_0_1 rfl).trans ?_
    refine (R_iload_n zf145_15 rfl rfl).trans ?_
    refine (R_vcallI zf145_16 zo_145 zvl_11_178 (by rw [zr_72]; rfl) zl_72 (Nat.le_of_ble_eq_true rfl) rfl rfl (Nat.le_of_ble_eq_true rfl) (Nat.le_of_ble_eq_true rfl) (es := [.inr (.inr (.inl 2)), .inl x1]) rfl rfl zk1_2 zo_72).trans ?_
    refine congrArg (cI _) (funext fun a5_ => funext fun h4_ => ?_)
    refine (R_if_eq (t := 31) zf145_19 rfl rfl).trans ?_
    refine ite_congr rfl (fun c6_ => ?_) (fun c6_ => ?_)
    · refine (R_iconst zf145_31 zw_0 rfl).trans ?_
      exact R_ireturn zf145_32 (by rw [zr_145]; rfl)
    · refine (R_iload_n zf145_22 rfl rfl).trans ?_
      refine (R_iload_n zf145_23 rfl rfl).trans ?_
      refine (R_icmp_eq (t := 31) zf145_24 rfl rfl).trans ?_
      refine ite_congr rfl (fun c7_ => ?_) (fun c7_ => ?_)
      · refine (R_iconst zf145_31 zw_0 rfl).trans ?_
        exact R_ireturn zf145_32 (by rw [zr_145]; rfl)
      · refine (R_iconst zf145_27 zw_1 rfl).trans ?_
        refine (R_goto (t := 32) zf145_28 rfl).trans ?_
        exact R_ireturn zf145_32 (by rw [zr_145]; rfl)
-- CannonPost$League.weight(I)I at 0
theorem q82_0 (d : Nat) (x0 : Int) (h : MH) : Run d 82 0 [.inr (.inr (.inl 2)), .inl x0] [] h = (if 0 ≤ (wI (x0 * 3)) ∧ (wI (x0 * 3)) < 15 then some (some (.inl (h 18 (wI (x0 * 3)).toNat)), h) else none) := by
  refine (R_aload_n zf82_0 rfl zlt_2 rfl).trans ?_
  refine (R_getR zf82_1 zo_82 zfl_5_18 zk1_2 zft_5_2 zmr_2_2 rfl).trans ?_
  refine (R_iload_n zf82_4 rfl rfl).trans ?_
  refine (R_iconst zf82_5 zw_3 rfl).trans ?_
  refine (R_imul zf82_6 rfl).trans ?_
  refine (R_iald zf82_7 zk_18 rfl).trans ?_
  refine ite_congr rfl (fun c1_ => ?_) (fun _ => rfl)
  exact R_ireturn_i zf82_8 zr_82
-- CannonPost$Guesses.hasRoomForSight()Z at 0
theorem q147_0 (d : Nat) (h : MH) : Run d 147 0 [.inr (.inr (.inl 10))] [] h = (if 10 ≤ (h 10 2) then some (some (.inl 0), h) else some (some (.inl 1), h)) := by
  refine (R_aload_n zf147_0 rfl zlt_10 rfl).trans ?_
  refine (R_getI zf147_1 zo_147 zfl_1_38 zk1_10 zft_1_2 rfl).trans ?_
  refine (R_bipush zf147_4 zb_10 rfl).trans ?_
  refine (R_icmp_ge (t := 13) zf147_6 rfl rfl).trans ?_
  refine ite_congr rfl (fun c1_ => ?_) (fun c1_ => ?_)
  · refine (R_iconst zf147_13 zw_0 rfl).trans ?_
    exact R_ireturn zf147_14 (by rw [zr_147]; rfl)
  · refine (R_iconst zf147_9 zw_1 rfl).trans ?_
    refine (R_goto (t := 14) zf147_10 rfl).trans ?_
    exact R_ireturn zf147_14 (by rw [zr_147]; rfl)
-- CannonPost$Guesses.addSight(IIIII)V at 0
theorem q148_0 (d : Nat) (x0 : Int) (x1 : Int) (x2 : Int) (x3 : Int) (x4 : Int) (h : MH) : Run d 148 0 [.inr (.inr (.inl 10)), .inl x0, .inl x1, .inl x2, .inl x3, .inl x4, vU] [] h = (if 0 ≤ (wI ((h 10 2) * 5)) ∧ (wI ((h 10 2) * 5)) < 50 then (if 0 ≤ (wI ((wI ((h 10 2) * 5)) + 1)) ∧ (wI ((wI ((h 10 2) * 5)) + 1)) < 50 then (if 0 ≤ (wI ((wI ((h 10 2) * 5)) + 2)) ∧ (wI ((wI ((h 10 2) * 5)) + 2)) < 50 then (if 0 ≤ (wI ((wI ((h 10 2) * 5)) + 3)) ∧ (wI ((wI ((h 10 2) * 5)) + 3)) < 50 then (if 0 ≤ (wI ((wI ((h 10 2) * 5)) + 4)) ∧ (wI ((wI ((h 10 2) * 5)) + 4)) < 50 then some (none, (up (up (up (up (up (up h 46 (wI ((h 10 2) * 5)).toNat x0) 46 (wI ((wI ((h 10 2) * 5)) + 1)).toNat x1) 46 (wI ((wI ((h 10 2) * 5)) + 2)).toNat x2) 46 (wI ((wI ((h 10 2) * 5)) + 3)).toNat x3) 46 (wI ((wI ((h 10 2) * 5)) + 4)).toNat x4) 10 2 (wI (((up (up (up (up (up h 46 (wI ((h 10 2) * 5)).toNat x0) 46 (wI ((wI ((h 10 2) * 5)) + 1)).toNat x1) 46 (wI ((wI ((h 10 2) * 5)) + 2)).toNat x2) 46 (wI ((wI ((h 10 2) * 5)) + 3)).toNat x3) 46 (wI ((wI ((h 10 2) * 5)) + 4)).toNat x4) 10 2) + 1)))) else none) else none) else none) else none) else none) := by
  refine (R_aload_n zf148_0 rfl zlt_10 rfl).trans ?_
  refine (R_getI zf148_1 zo_148 zfl_1_38 zk1_10 zft_1_2 rfl).trans ?_
  refine (R_iconst zf148_4 zw_5 rfl).trans ?_
  refine (R_imul zf148_5 rfl).trans ?_
  refine (R_istore (ls' := [.inr (.inr (.inl 10)), .inl x0, .inl x1, .inl x2, .inl x3, .inl x4, .inl (wI ((h 10 2) * 5))]) zf148_6 (Nat.le_of_ble_eq_true rfl) rfl rfl).trans ?_
  refine (R_aload_n zf148_8 rfl zlt_10 rfl).trans ?_
  refine (R_getR zf148_9 zo_148 zfl_1_15 zk1_10 zft_1_4 zmr_10_4 rfl).trans ?_
  refine (R_iload zf148_12 rfl rfl).trans ?_
  refine (R_iload_n zf148_14 rfl rfl).trans ?_
  refine (R_iast zf148_15 zk_46 rfl).trans ?_
  refine ite_congr rfl (fun c1_ => ?_) (fun _ => rfl)
  refine (R_aload_n zf148_16 rfl zlt_10 rfl).trans ?_
  refine (R_getR zf148_17 zo_148 zfl_1_15 zk1_10 zft_1_4 zmr_10_4 rfl).trans ?_
  refine (R_iload zf148_20 rfl rfl).trans ?_
  refine (R_iconst zf148_22 zw_1 rfl).trans ?_
  refine (R_iadd zf148_23 rfl).trans ?_
  refine (R_iload_n zf148_24 rfl rfl).trans ?_
  refine (R_iast zf148_25 zk_46 rfl).trans ?_
  refine ite_congr rfl (fun c2_ => ?_) (fun _ => rfl)
  refine (R_aload_n zf148_26 rfl zlt_10 rfl).trans ?_
  refine (R_getR zf148_27 zo_148 zfl_1_15 zk1_10 zft_1_4 zmr_10_4 rfl).trans ?_
  refine (R_iload zf148_30 rfl rfl).trans ?_
  refine (R_iconst zf148_32 zw_2 rfl).trans ?_
  refine (R_iadd zf148_33 rfl).trans ?_
  refine (R_iload_n zf148_34 rfl rfl).trans ?_
  refine (R_iast zf148_35 zk_46 rfl).trans ?_
  refine ite_congr rfl (fun c3_ => ?_) (fun _ => rfl)
  refine (R_aload_n zf148_36 rfl zlt_10 rfl).trans ?_
  refine (R_getR zf148_37 zo_148 zfl_1_15 zk1_10 zft_1_4 zmr_10_4 rfl).trans ?_
  refine (R_iload zf148_40 rfl rfl).trans ?_
  refine (R_iconst zf148_42 zw_3 rfl).trans ?_
  refine (R_iadd zf148_43 rfl).trans ?_
  refine (R_iload zf148_44 rfl rfl).trans ?_
  refine (R_iast zf148_46 zk_46 rfl).trans ?_
  refine ite_congr rfl (fun c4_ => ?_) (fun _ => rfl)
  refine (R_aload_n zf148_47 rfl zlt_10 rfl).trans ?_
  refine (R_getR zf148_48 zo_148 zfl_1_15 zk1_10 zft_1_4 zmr_10_4 rfl).trans ?_
  refine (R_iload zf148_51 rfl rfl).trans ?_
  refine (R_iconst zf148_53 zw_4 rfl).trans ?_
  refine (R_iadd zf148_54 rfl).trans ?_
  refine (R_iload zf148_55 rfl rfl).trans ?_
  refine (R_iast zf148_57 zk_46 rfl).trans ?_
  refine ite_congr rfl (fun c5_ => ?_) (fun _ => rfl)
  refine (R_aload_n zf148_58 rfl zlt_10 rfl).trans ?_
  refine (R_dup zf148_59 rfl rfl).trans ?_
  refine (R_getI zf148_60 zo_148 zfl_1_38 zk1_10 zft_1_2 rfl).trans ?_
  refine (R_iconst zf148_63 zw_1 rfl).trans ?_
  refine (R_iadd zf148_64 rfl).trans ?_
  refine (R_putI zf148_65 zo_148 zfl_1_38 zk1_10 zft_1_2 rfl).trans ?_
  exact R_return zf148_68 zr_148
-- CannonPost$Guesses.weighWinds()V at 0
theorem q150_0 (d : Nat) (h : MH) : Run (d + 1) 150 0 [.inr (.inr (.inl 10)), vU] [] h = Run (d + 1) 150 7 [.inr (.inr (.inl 10)), .inl 0] [] (up h 10 1 0) := by
  refine (R_aload_n zf150_0 rfl zlt_10 rfl).trans ?_
  refine (R_iconst zf150_1 zw_0 rfl).trans ?_
  refine (R_putI zf150_2 zo_150 zfl_1_45 zk1_10 zft_1_1 rfl).trans ?_
  refine (R_iconst zf150_5 zw_0 rfl).trans ?_
  refine (R_istore_n (ls' := [.inr (.inr (.inl 10)), .inl 0]) zf150_6 (Nat.le_of_ble_eq_true rfl) rfl rfl).trans ?_
  rfl
-- CannonPost$League.hasCarrier(I)Z at 0
theorem q72_0 (d : Nat) (x0 : Int) (h : MH) : Run d 72 0 [.inr (.inr (.inl 2)), .inl x0] [] h = (if x0 < 0 then some (some (.inl 0), h) else (if (h 2 4) ≤ x0 then some (some (.inl 0), h) else some (some (.inl 1), h))) := by
  refine (R_iload_n zf72_0 rfl rfl).trans ?_
  refine (R_if_lt (t := 16) zf72_1 rfl rfl).trans ?_
  refine ite_congr rfl (fun c1_ => ?_) (fun c1_ => ?_)
  · refine (R_iconst zf72_16 zw_0 rfl).trans ?_
    exact R_ireturn zf72_17 (by rw [zr_72]; rfl)
  · refine (R_iload_n zf72_4 rfl rfl).trans ?_
    refine (R_aload_n zf72_5 rfl zlt_2 rfl).trans ?_
    refine (R_getI zf72_6 zo_72 zfl_5_31 zk1_2 zft_5_4 rfl).trans ?_
    refine (R_icmp_ge (t := 16) zf72_9 rfl rfl).trans ?_
    refine ite_congr rfl (fun c2_ => ?_) (fun c2_ => ?_)
    · refine (R_iconst zf72_16 zw_0 rfl).trans ?_
      exact R_ireturn zf72_17 (by rw [zr_72]; rfl)
    · refine (R_iconst zf72_12 zw_1 rfl).trans ?_
      refine (R_goto (t := 17) zf72_13 rfl).trans ?_
      exact R_ireturn zf72_17 (by rw [zr_72]; rfl)
-- CannonPost$Guesses.tellingShot(II)I at 0
theorem q154_0 (d : Nat) (x0 : Int) (x1 : Int) (h : MH) : Run (d + 1) 154 0 [.inr (.inr (.inl 10)), .inl x0, .inl x1, vU, vU, vU, vU, vU] [] h = Run (d + 1) 154 13 [.inr (.inr (.inl 10)), .inl x0, .inl x1, .inl (-1), .inl (wI ((h 10 1) + 1)), .inl 0, vU, vU] [] h := by
  refine (R_iconst zf154_0 zw_m1 rfl).trans ?_
  refine (R_istore_n (ls' := [.inr (.inr (.inl 10)), .inl x0, .inl x1, .inl (-1), vU, vU, vU, vU]) zf154_1 (Nat.le_of_ble_eq_true rfl) rfl rfl).trans ?_
  refine (R_aload_n zf154_2 rfl zlt_10 rfl).trans ?_
  refine (R_getI zf154_3 zo_154 zfl_1_45 zk1_10 zft_1_1 rfl).trans ?_
  refine (R_iconst zf154_6 zw_1 rfl).trans ?_
  refine (R_iadd zf154_7 rfl).trans ?_
  refine (R_istore (ls' := [.inr (.inr (.inl 10)), .inl x0, .inl x1, .inl (-1), .inl (wI ((h 10 1) + 1)), vU, vU, vU]) zf154_8 (Nat.le_of_ble_eq_true rfl) rfl rfl).trans ?_
  refine (R_iconst zf154_10 zw_0 rfl).trans ?_
  refine (R_istore (ls' := [.inr (.inr (.inl 10)), .inl x0, .inl x1, .inl (-1), .inl (wI ((h 10 1) + 1)), .inl 0, vU, vU]) zf154_11 (Nat.le_of_ble_eq_true rfl) rfl rfl).trans ?_
  rfl
-- CannonPost$Guesses.hasRoomForFace()Z at 0
theorem q157_0 (d : Nat) (h : MH) : Run d 157 0 [.inr (.inr (.inl 10))] [] h = (if 12 ≤ (h 10 3) then some (some (.inl 0), h) else some (some (.inl 1), h)) := by
  refine (R_aload_n zf157_0 rfl zlt_10 rfl).trans ?_
  refine (R_getI zf157_1 zo_157 zfl_1_42 zk1_10 zft_1_3 rfl).trans ?_
  refine (R_bipush zf157_4 zb_12 rfl).trans ?_
  refine (R_icmp_ge (t := 13) zf157_6 rfl rfl).trans ?_
  refine ite_congr rfl (fun c1_ => ?_) (fun c1_ => ?_)
  · refine (R_iconst zf157_13 zw_0 rfl).trans ?_
    exact R_ireturn zf157_14 (by rw [zr_157]; rfl)
  · refine (R_iconst zf157_9 zw_1 rfl).trans ?_
    refine (R_goto (t := 14) zf157_10 rfl).trans ?_
    exact R_ireturn zf157_14 (by rw [zr_157]; rfl)
-- CannonPost$Guesses.addFace(IZ)V at 0
theorem q158_0 (d : Nat) (x0 : Int) (x1 : Int) (h : MH) : Run d 158 0 [.inr (.inr (.inl 10)), .inl x0, .inl x1] [] h = (if 0 ≤ (h 10 3) ∧ (h 10 3) < 12 then (if (0 ≤ ((up h 48 (h 10 3).toNat x0) 10 3) ∧ ((up h 48 (h 10 3).toNat x0) 10 3) < 12) ∧ (x1 = 0 ∨ x1 = 1) then some (none, (up (up (up h 48 (h 10 3).toNat x0) 49 ((up h 48 (h 10 3).toNat x0) 10 3).toNat x1) 10 3 (wI (((up (up h 48 (h 10 3).toNat x0) 49 ((up h 48 (h 10 3).toNat x0) 10 3).toNat x1) 10 3) + 1)))) else none) else none) := by
  refine (R_aload_n zf158_0 rfl zlt_10 rfl).trans ?_
  refine (R_getR zf158_1 zo_158 zfl_1_23 zk1_10 zft_1_6 zmr_10_6 rfl).trans ?_
  refine (R_aload_n zf158_4 rfl zlt_10 rfl).trans ?_
  refine (R_getI zf158_5 zo_158 zfl_1_42 zk1_10 zft_1_3 rfl).trans ?_
  refine (R_iload_n zf158_8 rfl rfl).trans ?_
  refine (R_iast zf158_9 zk_48 rfl).trans ?_
  refine ite_congr rfl (fun c1_ => ?_) (fun _ => rfl)
  refine (R_aload_n zf158_10 rfl zlt_10 rfl).trans ?_
  refine (R_getR zf158_11 zo_158 zfl_1_26 zk1_10 zft_1_7 zmr_10_7 rfl).trans ?_
  refine (R_aload_n zf158_14 rfl zlt_10 rfl).trans ?_
  refine (R_getI zf158_15 zo_158 zfl_1_42 zk1_10 zft_1_3 rfl).trans ?_
  refine (R_iload_n zf158_18 rfl rfl).trans ?_
  refine (R_zast zf158_19 zk_49 rfl).trans ?_
  refine ite_congr rfl (fun c2_ => ?_) (fun _ => rfl)
  refine (R_aload_n zf158_20 rfl zlt_10 rfl).trans ?_
  refine (R_dup zf158_21 rfl rfl).trans ?_
  refine (R_getI zf158_22 zo_158 zfl_1_42 zk1_10 zft_1_3 rfl).trans ?_
  refine (R_iconst zf158_25 zw_1 rfl).trans ?_
  refine (R_iadd zf158_26 rfl).trans ?_
  refine (R_putI zf158_27 zo_158 zfl_1_42 zk1_10 zft_1_3 rfl).trans ?_
  exact R_return zf158_30 zr_158
-- CannonPost$Guesses.partsFor(I)I at 0
theorem q160_0 (d : Nat) (x0 : Int) (h : MH) : Run (d + 1) 160 0 [.inr (.inr (.inl 10)), .inl x0, vU, vU, vU] [] h = Run (d + 1) 160 5 [.inr (.inr (.inl 10)), .inl x0, .inr (.inl 0), vU, .inl 0] [] h := by
  refine (R_lconst (v := 0) zf160_0 rfl rfl).trans ?_
  refine (R_lstore_n (ls' := [.inr (.inr (.inl 10)), .inl x0, .inr (.inl 0), vU, vU]) zf160_1 (Nat.le_of_ble_eq_true rfl) rfl rfl).trans ?_
  refine (R_iconst zf160_2 zw_0 rfl).trans ?_
  refine (R_istore (ls' := [.inr (.inr (.inl 10)), .inl x0, .inr (.inl 0), vU, .inl 0]) zf160_3 (Nat.le_of_ble_eq_true rfl) rfl rfl).trans ?_
  rfl
-- CannonPost.following()I at 6
theorem q162_6 (d : Nat) (x0 : Int) (x1 : Int) (x2 : Int) (z3 : MV) (hz3 : cat z3 = 1) (h : MH) : Run (d + 1) 162 6 [.inr (.inr (.inl 0)), .inl x0, .inl x1, .inl x2, z3] [] h = (if (h 2 3) ≤ x2 then some (some (.inl x0), h) else (cI (Run d 163 0 [.inr (.inr (.inl 10)), .inl x2, vU] [] h) fun a3_ h2_ => (if a3_ = 0 then (cI (Run d 160 0 [.inr (.inr (.inl 10)), .inl x2, vU, vU, vU] [] h2_) fun a6_ h5_ => (if a6_ ≤ x1 then Run (d + 1) 162 6 [.inr (.inr (.inl 0)), .inl x0, .inl x1, .inl (wI (x2 + 1)), .inl a6_] [] h5_ else Run (d + 1) 162 6 [.inr (.inr (.inl 0)), .inl x2, .inl a6_, .inl (wI (x2 + 1)), .inl a6_] [] h5_)) else (if (-1) ≤ x1 then Run (d + 1) 162 6 [.inr (.inr (.inl 0)), .inl x0, .inl x1, .inl (wI (x2 + 1)), .inl (-1)] [] h2_ else Run (d + 1) 162 6 [.inr (.inr (.inl 0)), .inl x2, .inl (-1), .inl (wI (x2 + 1)), .inl (-1)] [] h2_)))) := by
  refine (R_iload_n zf162_6 rfl rfl).trans ?_
  refine (R_aload_n zf162_7 rfl zlt_0 rfl).trans ?_
  refine (R_getR zf162_8 zo_162 zfl_11_19 zk1_0 zft_11_1 zmr_0_1 rfl).trans ?_
  refine (R_getI zf162_11 zo_162 zfl_11_119 zk1_2 zft_5_3 rfl).trans ?_
  refine (R_icmp_ge (t := 59) zf162_14 rfl rfl).trans ?_
  refine ite_congr rfl (fun c1_ => ?_) (fun c1_ => ?_)
  · refine (R_iload_n zf162_59 rfl rfl).trans ?_
    exact R_ireturn_i zf162_60 zr_162
  · refine (R_aload_n zf162_17 rfl zlt_0 rfl).trans ?_
    refine (R_getR zf162_18 zo_162 zfl_11_74 zk1_0 zft_11_8 zmr_0_8 rfl).trans ?_
    refine (R_iload_n zf162_21 rfl rfl).trans ?_
    refine (R_vcallI zf162_22 zo_162 zvl_11_419 (by rw [zr_163]; rfl) zl_163 (Nat.le_of_ble_eq_true rfl) rfl rfl (Nat.le_of_ble_eq_true rfl) (Nat.le_of_ble_eq_true rfl) (es := [.inr (.inr (.inl 10)), .inl x2, vU]) rfl rfl zk1_10 zo_163).trans ?_
    refine congrArg (cI _) (funext fun a3_ => funext fun h2_ => ?_)
    refine (R_if_eq (t := 32) zf162_25 rfl rfl).trans ?_
    refine ite_congr rfl (fun c4_ => ?_) (fun c4_ => ?_)
    · refine (R_aload_n zf162_32 rfl zlt_0 rfl).trans ?_
      refine (R_getR zf162_33 zo_162 zfl_11_74 zk1_0 zft_11_8 zmr_0_8 rfl).trans ?_
      refine (R_iload_n zf162_36 rfl rfl).trans ?_
      refine (R_vcallI zf162_37 zo_162 zvl_11_416 (by rw [zr_160]; rfl) zl_160 (Nat.le_of_ble_eq_true rfl) rfl rfl (Nat.le_of_ble_eq_true rfl) (Nat.le_of_ble_eq_true rfl) (es := [.inr (.inr (.inl 10)), .inl x2, vU, vU, vU]) rfl rfl zk1_10 zo_160).trans ?_
      refine congrArg (cI _) (funext fun a6_ => funext fun h5_ => ?_)
      refine (R_istore (ls' := [.inr (.inr (.inl 0)), .inl x0, .inl x1, .inl x2, .inl a6_]) zf162_40 (Nat.le_of_ble_eq_true rfl) rfl rfl).trans ?_
      refine (R_iload zf162_42 rfl rfl).trans ?_
      refine (R_iload_n zf162_44 rfl rfl).trans ?_
      refine (R_icmp_le (t := 53) zf162_45 rfl rfl).trans ?_
      refine ite_congr rfl (fun c7_ => ?_) (fun c7_ => ?_)
      · refine (R_iinc (ls' := [.inr (.inr (.inl 0)), .inl x0, .inl x1, .inl (wI (x2 + 1)), .inl a6_]) zf162_53 rfl rfl rfl).trans ?_
        refine (R_goto (t := 6) zf162_56 rfl).trans ?_
        rfl
      · refine (R_iload zf162_48 rfl rfl).trans ?_
        refine (R_istore_n (ls' := [.inr (.inr (.inl 0)), .inl x0, .inl a6_, .inl x2, .inl a6_]) zf162_50 (Nat.le_of_ble_eq_true rfl) rfl rfl).trans ?_
        refine (R_iload_n zf162_51 rfl rfl).trans ?_
        refine (R_istore_n (ls' := [.inr (.inr (.inl 0)), .inl x2, .inl a6_, .inl x2, .inl a6_]) zf162_52 (Nat.le_of_ble_eq_true rfl) rfl rfl).trans ?_
        refine (R_iinc (ls' := [.inr (.inr (.inl 0)), .inl x2, .inl a6_, .inl (wI (x2 + 1)), .inl a6_]) zf162_53 rfl rfl rfl).trans ?_
        refine (R_goto (t := 6) zf162_56 rfl).trans ?_
        rfl
    · refine (R_iconst zf162_28 zw_m1 rfl).trans ?_
      refine (R_goto (t := 40) zf162_29 rfl).trans ?_
      refine (R_istore (ls' := [.inr (.inr (.inl 0)), .inl x0, .inl x1, .inl x2, .inl (-1)]) zf162_40 (Nat.le_of_ble_eq_true rfl) rfl rfl).trans ?_
      refine (R_iload zf162_42 rfl rfl).trans ?_
      refine (R_iload_n zf162_44 rfl rfl).trans ?_
      refine (R_icmp_le (t := 53) zf162_45 rfl rfl).trans ?_
      refine ite_congr rfl (fun c8_ => ?_) (fun c8_ => ?_)
      · refine (R_iinc (ls' := [.inr (.inr (.inl 0)), .inl x0, .inl x1, .inl (wI (x2 + 1)), .inl (-1)]) zf162_53 rfl rfl rfl).trans ?_
        refine (R_goto (t := 6) zf162_56 rfl).trans ?_
        rfl
      · refine (R_iload zf162_48 rfl rfl).trans ?_
        refine (R_istore_n (ls' := [.inr (.inr (.inl 0)), .inl x0, .inl (-1), .inl x2, .inl (-1)]) zf162_50 (Nat.le_of_ble_eq_true rfl) rfl rfl).trans ?_
        refine (R_iload_n zf162_51 rfl rfl).trans ?_
        refine (R_istore_n (ls' := [.inr (.inr (.inl 0)), .inl x2, .inl (-1), .inl x2, .inl (-1)]) zf162_52 (Nat.le_of_ble_eq_true rfl) rfl rfl).trans ?_
        refine (R_iinc (ls' := [.inr (.inr (.inl 0)), .inl x2, .inl (-1), .inl (wI (x2 + 1)), .inl (-1)]) zf162_53 rfl rfl rfl).trans ?_
        refine (R_goto (t := 6) zf162_56 rfl).trans ?_
        rfl
-- CannonPost.isGamePowder(I)Z at 0
theorem q165_0 (d : Nat) (x0 : Int) (h : MH) : Run (d + 1) 165 0 [.inl x0] [] h = (if x0 = 0 then some (some (.inl 1), h) else (cI (Run d 73 0 [.inl x0] [] h) fun a3_ h2_ => (if a3_ = 0 then some (some (.inl 0), h2_) else some (some (.inl 1), h2_)))) := by
  refine (R_iload_n zf165_0 rfl rfl).trans ?_
  refine (R_if_eq (t := 11) zf165_1 rfl rfl).trans ?_
  refine ite_congr rfl (fun c1_ => ?_) (fun c1_ => ?_)
  · refine (R_iconst zf165_11 zw_1 rfl).trans ?_
    refine (R_goto (t := 16) zf165_12 rfl).trans ?_
    exact R_ireturn zf165_16 (by rw [zr_165]; rfl)
  · refine (R_iload_n zf165_4 rfl rfl).trans ?_
    refine (R_callI zf165_5 zo_165 zsl_11_268 (by rw [zr_73]; rfl) zl_73 (Nat.le_of_ble_eq_true rfl) rfl rfl (Nat.le_of_ble_eq_true rfl) (Nat.le_of_ble_eq_true rfl) (es := [.inl x0]) rfl rfl).trans ?_
    refine congrArg (cI _) (funext fun a3_ => funext fun h2_ => ?_)
    refine (R_if_eq (t := 15) zf165_8 rfl rfl).trans ?_
    refine ite_congr rfl (fun c4_ => ?_) (fun c4_ => ?_)
    · refine (R_iconst zf165_15 zw_0 rfl).trans ?_
      exact R_ireturn zf165_16 (by rw [zr_165]; rfl)
    · refine (R_iconst zf165_11 zw_1 rfl).trans ?_
      refine (R_goto (t := 16) zf165_12 rfl).trans ?_
      exact R_ireturn zf165_16 (by rw [zr_165]; rfl)
-- CannonPost.gained(IIII)I at 0
theorem q166_0 (d : Nat) (x0 : Int) (x1 : Int) (x2 : Int) (x3 : Int) (h : MH) : Run (d + 1) 166 0 [.inr (.inr (.inl 0)), .inl x0, .inl x1, .inl x2, .inl x3, vU] [] h = (if (wI (x2 + x3)) ≤ 0 then Run (d + 1) 166 13 [.inr (.inr (.inl 0)), .inl x0, .inl x1, .inl x2, .inl x3, vU] [.inl 0] h else Run (d + 1) 166 13 [.inr (.inr (.inl 0)), .inl x0, .inl x1, .inl x2, .inl x3, vU] [.inl 6] h) := by
  refine (R_iload_n zf166_0 rfl rfl).trans ?_
  refine (R_iload zf166_1 rfl rfl).trans ?_
  refine (R_iadd zf166_3 rfl).trans ?_
  refine (R_if_le (t := 12) zf166_4 rfl rfl).trans ?_
  refine ite_congr rfl (fun c1_ => ?_) (fun c1_ => ?_)
  · refine (R_iconst zf166_12 zw_0 rfl).trans ?_
    rfl
  · refine (R_bipush zf166_7 zb_6 rfl).trans ?_
    refine (R_goto (t := 13) zf166_9 rfl).trans ?_
    rfl
-- CannonPost.rests(IIII)I at 24
theorem q167_24 (d : Nat) (x0 : Int) (x1 : Int) (x2 : Int) (x3 : Int) (x4 : Int) (x5 : Int) (z6 : MV) (hz6 : cat z6 = 1) (z7 : MV) (hz7 : cat z7 = 1) (h : MH) : Run (d + 1) 167 24 [.inr (.inr (.inl 0)), .inl x0, .inl x1, .inl x2, .inl x3, .inl x4, .inl x5, z6, z7] [] h = (if 1 < x5 then (if ¬ x3 = (-1) then some (some (.inl (-1)), h) else some (some (.inl x4), h)) else Run (d + 1) 167 33 [.inr (.inr (.inl 0)), .inl x0, .inl x1, .inl x2, .inl x3, .inl x4, .inl x5, .inl 0, z7] [] h) := by
  refine (R_iload zf167_24 rfl rfl).trans ?_
  refine (R_iconst zf167_26 zw_1 rfl).trans ?_
  refine (R_icmp_gt (t := 144) zf167_27 rfl rfl).trans ?_
  refine ite_congr rfl (fun c1_ => ?_) (fun c1_ => ?_)
  · refine (R_iload zf167_144 rfl rfl).trans ?_
    refine (R_iconst zf167_146 zw_m1 rfl).trans ?_
    refine (R_icmp_ne (t := 155) zf167_147 rfl rfl).trans ?_
    refine ite_congr rfl (fun c2_ => ?_) (fun c2_ => ?_)
    · refine (R_iconst zf167_155 zw_m1 rfl).trans ?_
      exact R_ireturn_i zf167_156 zr_167
    · refine (R_iload zf167_150 rfl rfl).trans ?_
      refine (R_goto (t := 156) zf167_152 rfl).trans ?_
      exact R_ireturn_i zf167_156 zr_167
  · refine (R_iconst zf167_30 zw_0 rfl).trans ?_
    refine (R_istore (ls' := [.inr (.inr (.inl 0)), .inl x0, .inl x1, .inl x2, .inl x3, .inl x4, .inl x5, .inl 0, z7]) zf167_31 (Nat.le_of_ble_eq_true rfl) rfl rfl).trans ?_
    rfl
-- CannonPost.isPowder(I)Z at 0
theorem q73_0 (d : Nat) (x0 : Int) (h : MH) : Run d 73 0 [.inl x0] [] h = (if x0 < 1 then some (some (.inl 0), h) else (if 20 < x0 then some (some (.inl 0), h) else some (some (.inl 1), h))) := by
  refine (R_iload_n zf73_0 rfl rfl).trans ?_
  refine (R_iconst zf73_1 zw_1 rfl).trans ?_
  refine (R_icmp_lt (t := 15) zf73_2 rfl rfl).trans ?_
  refine ite_congr rfl (fun c1_ => ?_) (fun c1_ => ?_)
  · refine (R_iconst zf73_15 zw_0 rfl).trans ?_
    exact R_ireturn zf73_16 (by rw [zr_73]; rfl)
  · refine (R_iload_n zf73_5 rfl rfl).trans ?_
    refine (R_bipush zf73_6 zb_20 rfl).trans ?_
    refine (R_icmp_gt (t := 15) zf73_8 rfl rfl).trans ?_
    refine ite_congr rfl (fun c2_ => ?_) (fun c2_ => ?_)
    · refine (R_iconst zf73_15 zw_0 rfl).trans ?_
      exact R_ireturn zf73_16 (by rw [zr_73]; rfl)
    · refine (R_iconst zf73_11 zw_1 rfl).trans ?_
      refine (R_goto (t := 16) zf73_12 rfl).trans ?_
      exact R_ireturn zf73_16 (by rw [zr_73]; rfl)
-- CannonPost.hays(I)I at 27
theorem q169_27 (d : Nat) (x0 : Int) (x1 : Int) (x2 : Int) (z3 : MV) (hz3 : cat z3 = 1) (h : MH) : Run (d + 1) 169 27 [.inr (.inr (.inl 0)), .inl x0, .inl x1, .inl x2, z3] [] h = (if (h 2 3) ≤ x2 then Run (d + 1) 169 74 [.inr (.inr (.inl 0)), .inl x0, .inl x1, .inl (h 91 4), .inl 0] [] h else (if 0 ≤ (wI (21 + x2)) ∧ (wI (21 + x2)) < 37 then Run (d + 1) 169 27 [.inr (.inr (.inl 0)), .inl x0, .inl (mn x1 (h 91 (wI (21 + x2)).toNat)), .inl (wI (x2 + 1)), z3] [] h else none)) := by
  refine (R_iload_n zf169_27 rfl rfl).trans ?_
  refine (R_aload_n zf169_28 rfl zlt_0 rfl).trans ?_
  refine (R_getR zf169_29 zo_169 zfl_11_19 zk1_0 zft_11_1 zmr_0_1 rfl).trans ?_
  refine (R_getI zf169_32 zo_169 zfl_11_119 zk1_2 zft_5_3 rfl).trans ?_
  refine (R_icmp_ge (t := 61) zf169_35 rfl rfl).trans ?_
  refine ite_congr rfl (fun c1_ => ?_) (fun c1_ => ?_)
  · refine (R_aload_n zf169_61 rfl zlt_0 rfl).trans ?_
    refine (R_getR zf169_62 zo_169 zfl_11_88 zk1_0 zft_11_10 zmr_0_10 rfl).trans ?_
    refine (R_getR zf169_65 zo_169 zfl_11_162 zk1_12 zft_9_0 zmr_12_0 rfl).trans ?_
    refine (R_iconst zf169_68 zw_4 rfl).trans ?_
    refine (R_ialdc zf169_69 zk_91 (by decide) rfl rfl).trans ?_
    refine (R_istore_n (ls' := [.inr (.inr (.inl 0)), .inl x0, .inl x1, .inl (h 91 4), z3]) zf169_70 (Nat.le_of_ble_eq_true rfl) rfl rfl).trans ?_
    refine (R_iconst zf169_71 zw_0 rfl).trans ?_
    refine (R_istore (ls' := [.inr (.inr (.inl 0)), .inl x0, .inl x1, .inl (h 91 4), .inl 0]) zf169_72 (Nat.le_of_ble_eq_true rfl) rfl rfl).trans ?_
    rfl
  · refine (R_iload_n zf169_38 rfl rfl).trans ?_
    refine (R_aload_n zf169_39 rfl zlt_0 rfl).trans ?_
    refine (R_getR zf169_40 zo_169 zfl_11_88 zk1_0 zft_11_10 zmr_0_10 rfl).trans ?_
    refine (R_getR zf169_43 zo_169 zfl_11_162 zk1_12 zft_9_0 zmr_12_0 rfl).trans ?_
    refine (R_bipush zf169_46 zb_21 rfl).trans ?_
    refine (R_iload_n zf169_48 rfl rfl).trans ?_
    refine (R_iadd zf169_49 rfl).trans ?_
    refine (R_iald zf169_50 zk_91 rfl).trans ?_
    refine ite_congr rfl (fun c2_ => ?_) (fun _ => rfl)
    refine (R_mmin zf169_51 zo_169 zsl_11_429 zml_11_429 zna_11_429 (Nat.le_of_ble_eq_true rfl) rfl).trans ?_
    refine (R_istore_n (ls' := [.inr (.inr (.inl 0)), .inl x0, .inl (mn x1 (h 91 (wI (21 + x2)).toNat)), .inl x2, z3]) zf169_54 (Nat.le_of_ble_eq_true rfl) rfl rfl).trans ?_
    refine (R_iinc (ls' := [.inr (.inr (.inl 0)), .inl x0, .inl (mn x1 (h 91 (wI (21 + x2)).toNat)), .inl (wI (x2 + 1)), z3]) zf169_55 rfl rfl rfl).trans ?_
    refine (R_goto (t := 27) zf169_58 rfl).trans ?_
    rfl
-- CannonPost$League.nearestFort(I)I at 0
theorem q172_0 (d : Nat) (x0 : Int) (h : MH) : Run (d + 1) 172 0 [.inr (.inr (.inl 2)), .inl x0, vU, vU] [] h = Run (d + 1) 172 4 [.inr (.inr (.inl 2)), .inl x0, .inl 0, .inl 1] [] h := by
  refine (R_iconst zf172_0 zw_0 rfl).trans ?_
  refine (R_istore_n (ls' := [.inr (.inr (.inl 2)), .inl x0, .inl 0, vU]) zf172_1 (Nat.le_of_ble_eq_true rfl) rfl rfl).trans ?_
  refine (R_iconst zf172_2 zw_1 rfl).trans ?_
  refine (R_istore_n (ls' := [.inr (.inr (.inl 2)), .inl x0, .inl 0, .inl 1]) zf172_3 (Nat.le_of_ble_eq_true rfl) rfl rfl).trans ?_
  rfl
-- CannonPost$League.highestFort()I at 0
theorem q171_0 (d : Nat) (h : MH) : Run (d + 1) 171 0 [.inr (.inr (.inl 2)), vU, vU] [] h = Run (d + 1) 171 4 [.inr (.inr (.inl 2)), .inl 0, .inl 1] [] h := by
  refine (R_iconst zf171_0 zw_0 rfl).trans ?_
  refine (R_istore_n (ls' := [.inr (.inr (.inl 2)), .inl 0, vU]) zf171_1 (Nat.le_of_ble_eq_true rfl) rfl rfl).trans ?_
  refine (R_iconst zf171_2 zw_1 rfl).trans ?_
  refine (R_istore_n (ls' := [.inr (.inr (.inl 2)), .inl 0, .inl 1]) zf171_3 (Nat.le_of_ble_eq_true rfl) rfl rfl).trans ?_
  rfl
-- CannonPost.free()I at 16
theorem q173_16 (d : Nat) (x0 : Int) (x1 : Int) (h : MH) : Run (d + 1) 173 16 [.inr (.inr (.inl 0)), .inl x0, .inl x1] [] h = (if (h 2 4) ≤ x1 then some (some (.inl x0), h) else (if 0 ≤ (wI (16 + x1)) ∧ (wI (16 + x1)) < 37 then (if ¬ (h 91 (wI (16 + x1)).toNat) = 0 then Run (d + 1) 173 16 [.inr (.inr (.inl 0)), .inl (iOr x0 0), .inl (wI (x1 + 1))] [] h else Run (d + 1) 173 16 [.inr (.inr (.inl 0)), .inl (iOr x0 (iShl 1 x1)), .inl (wI (x1 + 1))] [] h) else none)) := by
  refine (R_iload_n zf173_16 rfl rfl).trans ?_
  refine (R_aload_n zf173_17 rfl zlt_0 rfl).trans ?_
  refine (R_getR zf173_18 zo_173 zfl_11_19 zk1_0 zft_11_1 zmr_0_1 rfl).trans ?_
  refine (R_getI zf173_21 zo_173 zfl_11_205 zk1_2 zft_5_4 rfl).trans ?_
  refine (R_icmp_ge (t := 58) zf173_24 rfl rfl).trans ?_
  refine ite_congr rfl (fun c1_ => ?_) (fun c1_ => ?_)
  · refine (R_iload_n zf173_58 rfl rfl).trans ?_
    exact R_ireturn_i zf173_59 zr_173
  · refine (R_iload_n zf173_27 rfl rfl).trans ?_
    refine (R_aload_n zf173_28 rfl zlt_0 rfl).trans ?_
    refine (R_getR zf173_29 zo_173 zfl_11_88 zk1_0 zft_11_10 zmr_0_10 rfl).trans ?_
    refine (R_getR zf173_32 zo_173 zfl_11_162 zk1_12 zft_9_0 zmr_12_0 rfl).trans ?_
    refine (R_bipush zf173_35 zb_16 rfl).trans ?_
    refine (R_iload_n zf173_37 rfl rfl).trans ?_
    refine (R_iadd zf173_38 rfl).trans ?_
    refine (R_iald zf173_39 zk_91 rfl).trans ?_
    refine ite_congr rfl (fun c2_ => ?_) (fun _ => rfl)
    refine (R_if_ne (t := 49) zf173_40 rfl rfl).trans ?_
    refine ite_congr rfl (fun c3_ => ?_) (fun c3_ => ?_)
    · refine (R_iconst zf173_49 zw_0 rfl).trans ?_
      refine (R_ior zf173_50 rfl).trans ?_
      refine (R_istore_n (ls' := [.inr (.inr (.inl 0)), .inl (iOr x0 0), .inl x1]) zf173_51 (Nat.le_of_ble_eq_true rfl) rfl rfl).trans ?_
      refine (R_iinc (ls' := [.inr (.inr (.inl 0)), .inl (iOr x0 0), .inl (wI (x1 + 1))]) zf173_52 rfl rfl rfl).trans ?_
      refine (R_goto (t := 16) zf173_55 rfl).trans ?_
      rfl
    · refine (R_iconst zf173_43 zw_1 rfl).trans ?_
      refine (R_iload_n zf173_44 rfl rfl).trans ?_
      refine (R_ishl zf173_45 rfl).trans ?_
      refine (R_goto (t := 50) zf173_46 rfl).trans ?_
      refine (R_ior zf173_50 rfl).trans ?_
      refine (R_istore_n (ls' := [.inr (.inr (.inl 0)), .inl (iOr x0 (iShl 1 x1)), .inl x1]) zf173_51 (Nat.le_of_ble_eq_true rfl) rfl rfl).trans ?_
      refine (R_iinc (ls' := [.inr (.inr (.inl 0)), .inl (iOr x0 (iShl 1 x1)), .inl (wI (x1 + 1))]) zf173_52 rfl rfl rfl).trans ?_
      refine (R_goto (t := 16) zf173_55 rfl).trans ?_
      rfl
-- CannonPost.home(I)I at 17
theorem q174_17 (d : Nat) (x0 : Int) (x1 : Int) (x2 : Int) (z3 : MV) (hz3 : cat z3 = 1) (h : MH) : Run (d + 1) 174 17 [.inr (.inr (.inl 0)), .inl x0, .inl x1, .inl x2, z3] [] h = (if (h 2 4) ≤ x2 then some (some (.inl x1), h) else (if 0 ≤ (wI (6 + x2)) ∧ (wI (6 + x2)) < 37 then (if ¬ (h 91 (wI (6 + x2)).toNat) = x0 then Run (d + 1) 174 17 [.inr (.inr (.inl 0)), .inl x0, .inl (iOr x1 0), .inl (wI (x2 + 1)), .inl 0] [] h else (if 0 ≤ (wI (16 + x2)) ∧ (wI (16 + x2)) < 37 then (if ¬ (h 91 (wI (16 + x2)).toNat) = 0 then Run (d + 1) 174 17 [.inr (.inr (.inl 0)), .inl x0, .inl (iOr x1 0), .inl (wI (x2 + 1)), .inl 0] [] h else Run (d + 1) 174 17 [.inr (.inr (.inl 0)), .inl x0, .inl (iOr x1 (iShl 1 x2)), .inl (wI (x2 + 1)), .inl 1] [] h) else none)) else none)) := by
  refine (R_iload_n zf174_17 rfl rfl).trans ?_
  refine (R_aload_n zf174_18 rfl zlt_0 rfl).trans ?_
  refine (R_getR zf174_19 zo_174 zfl_11_19 zk1_0 zft_11_1 zmr_0_1 rfl).trans ?_
  refine (R_getI zf174_22 zo_174 zfl_11_205 zk1_2 zft_5_4 rfl).trans ?_
  refine (R_icmp_ge (t := 87) zf174_25 rfl rfl).trans ?_
  refine ite_congr rfl (fun c1_ => ?_) (fun c1_ => ?_)
  · refine (R_iload_n zf174_87 rfl rfl).trans ?_
    exact R_ireturn_i zf174_88 zr_174
  · refine (R_aload_n zf174_28 rfl zlt_0 rfl).trans ?_
    refine (R_getR zf174_29 zo_174 zfl_11_88 zk1_0 zft_11_10 zmr_0_10 rfl).trans ?_
    refine (R_getR zf174_32 zo_174 zfl_11_162 zk1_12 zft_9_0 zmr_12_0 rfl).trans ?_
    refine (R_bipush zf174_35 zb_6 rfl).trans ?_
    refine (R_iload_n zf174_37 rfl rfl).trans ?_
    refine (R_iadd zf174_38 rfl).trans ?_
    refine (R_iald zf174_39 zk_91 rfl).trans ?_
    refine ite_congr rfl (fun c2_ => ?_) (fun _ => rfl)
    refine (R_iload_n zf174_40 rfl rfl).trans ?_
    refine (R_icmp_ne (t := 63) zf174_41 rfl rfl).trans ?_
    refine ite_congr rfl (fun c3_ => ?_) (fun c3_ => ?_)
    · refine (R_iconst zf174_63 zw_0 rfl).trans ?_
      refine (R_istore (ls' := [.inr (.inr (.inl 0)), .inl x0, .inl x1, .inl x2, .inl 0]) zf174_64 (Nat.le_of_ble_eq_true rfl) rfl rfl).trans ?_
      refine (R_iload_n zf174_66 rfl rfl).trans ?_
      refine (R_iload zf174_67 rfl rfl).trans ?_
      refine ((R_if_eq (t := 78) zf174_69 rfl rfl).trans (if_pos (by decide))).trans ?_
      refine (R_iconst zf174_78 zw_0 rfl).trans ?_
      refine (R_ior zf174_79 rfl).trans ?_
      refine (R_istore_n (ls' := [.inr (.inr (.inl 0)), .inl x0, .inl (iOr x1 0), .inl x2, .inl 0]) zf174_80 (Nat.le_of_ble_eq_true rfl) rfl rfl).trans ?_
      refine (R_iinc (ls' := [.inr (.inr (.inl 0)), .inl x0, .inl (iOr x1 0), .inl (wI (x2 + 1)), .inl 0]) zf174_81 rfl rfl rfl).trans ?_
      refine (R_goto (t := 17) zf174_84 rfl).trans ?_
      rfl
    · refine (R_aload_n zf174_44 rfl zlt_0 rfl).trans ?_
      refine (R_getR zf174_45 zo_174 zfl_11_88 zk1_0 zft_11_10 zmr_0_10 rfl).trans ?_
      refine (R_getR zf174_48 zo_174 zfl_11_162 zk1_12 zft_9_0 zmr_12_0 rfl).trans ?_
      refine (R_bipush zf174_51 zb_16 rfl).trans ?_
      refine (R_iload_n zf174_53 rfl rfl).trans ?_
      refine (R_iadd zf174_54 rfl).trans ?_
      refine (R_iald zf174_55 zk_91 rfl).trans ?_
      refine ite_congr rfl (fun c4_ => ?_) (fun _ => rfl)
      refine (R_if_ne (t := 63) zf174_56 rfl rfl).trans ?_
      refine ite_congr rfl (fun c5_ => ?_) (fun c5_ => ?_)
      · refine (R_iconst zf174_63 zw_0 rfl).trans ?_
        refine (R_istore (ls' := [.inr (.inr (.inl 0)), .inl x0, .inl x1, .inl x2, .inl 0]) zf174_64 (Nat.le_of_ble_eq_true rfl) rfl rfl).trans ?_
        refine (R_iload_n zf174_66 rfl rfl).trans ?_
        refine (R_iload zf174_67 rfl rfl).trans ?_
        refine ((R_if_eq (t := 78) zf174_69 rfl rfl).trans (if_pos (by decide))).trans ?_
        refine (R_iconst zf174_78 zw_0 rfl).trans ?_
        refine (R_ior zf174_79 rfl).trans ?_
        refine (R_istore_n (ls' := [.inr (.inr (.inl 0)), .inl x0, .inl (iOr x1 0), .inl x2, .inl 0]) zf174_80 (Nat.le_of_ble_eq_true rfl) rfl rfl).trans ?_
        refine (R_iinc (ls' := [.inr (.inr (.inl 0)), .inl x0, .inl (iOr x1 0), .inl (wI (x2 + 1)), .inl 0]) zf174_81 rfl rfl rfl).trans ?_
        refine (R_goto (t := 17) zf174_84 rfl).trans ?_
        rfl
      · refine (R_iconst zf174_59 zw_1 rfl).trans ?_
        refine (R_goto (t := 64) zf174_60 rfl).trans ?_
        refine (R_istore (ls' := [.inr (.inr (.inl 0)), .inl x0, .inl x1, .inl x2, .inl 1]) zf174_64 (Nat.le_of_ble_eq_true rfl) rfl rfl).trans ?_
        refine (R_iload_n zf174_66 rfl rfl).trans ?_
        refine (R_iload zf174_67 rfl rfl).trans ?_
        refine ((R_if_eq (t := 78) zf174_69 rfl rfl).trans (if_neg (by decide))).trans ?_
        refine (R_iconst zf174_72 zw_1 rfl).trans ?_
        refine (R_iload_n zf174_73 rfl rfl).trans ?_
        refine (R_ishl zf174_74 rfl).trans ?_
        refine (R_goto (t := 79) zf174_75 rfl).trans ?_
        refine (R_ior zf174_79 rfl).trans ?_
        refine (R_istore_n (ls' := [.inr (.inr (.inl 0)), .inl x0, .inl (iOr x1 (iShl 1 x2)), .inl x2, .inl 1]) zf174_80 (Nat.le_of_ble_eq_true rfl) rfl rfl).trans ?_
        refine (R_iinc (ls' := [.inr (.inr (.inl 0)), .inl x0, .inl (iOr x1 (iShl 1 x2)), .inl (wI (x2 + 1)), .inl 1]) zf174_81 rfl rfl rfl).trans ?_
        refine (R_goto (t := 17) zf174_84 rfl).trans ?_
        rfl
-- CannonPost$League.nerve(I)I at 0
theorem q83_0 (d : Nat) (x0 : Int) (h : MH) : Run d 83 0 [.inr (.inr (.inl 2)), .inl x0] [] h = (if 0 ≤ (wI ((wI (x0 * 3)) + 1)) ∧ (wI ((wI (x0 * 3)) + 1)) < 15 then some (some (.inl (h 18 (wI ((wI (x0 * 3)) + 1)).toNat)), h) else none) := by
  refine (R_aload_n zf83_0 rfl zlt_2 rfl).trans ?_
  refine (R_getR zf83_1 zo_83 zfl_5_18 zk1_2 zft_5_2 zmr_2_2 rfl).trans ?_
  refine (R_iload_n zf83_4 rfl rfl).trans ?_
  refine (R_iconst zf83_5 zw_3 rfl).trans ?_
  refine (R_imul zf83_6 rfl).trans ?_
  refine (R_iconst zf83_7 zw_1 rfl).trans ?_
  refine (R_iadd zf83_8 rfl).trans ?_
  refine (R_iald zf83_9 zk_18 rfl).trans ?_
  refine ite_congr rfl (fun c1_ => ?_) (fun _ => rfl)
  exact R_ireturn_i zf83_10 zr_83
-- CannonPostModel.bytesIn(I)I at 0
theorem q179_0 (d : Nat) (x0 : Int) (h : MH) : Run d 179 0 [.inl x0, vU, vU] [] h = Run d 179 5 [.inl x0, .inl 0, .inl 24] [] h := by
  refine (R_iconst zf179_0 zw_0 rfl).trans ?_
  refine (R_istore_n (ls' := [.inl x0, .inl 0, vU]) zf179_1 (Nat.le_of_ble_eq_true rfl) rfl rfl).trans ?_
  refine (R_bipush zf179_2 zb_24 rfl).trans ?_
  refine (R_istore_n (ls' := [.inl x0, .inl 0, .inl 24]) zf179_4 (Nat.le_of_ble_eq_true rfl) rfl rfl).trans ?_
  rfl
-- CannonPostModel.put(I)V at 0
theorem q180_0 (d : Nat) (x0 : Int) (h : MH) : Run d 180 0 [.inr (.inr (.inl 97)), .inl x0, vU] [] h = Run d 180 3 [.inr (.inr (.inl 97)), .inl x0, .inl 24] [] h := by
  refine (R_bipush zf180_0 zb_24 rfl).trans ?_
  refine (R_istore_n (ls' := [.inr (.inr (.inl 97)), .inl x0, .inl 24]) zf180_2 (Nat.le_of_ble_eq_true rfl) rfl rfl).trans ?_
  rfl
-- CannonPostModel.isIn(JJJ)Z at 0
theorem q183_0 (d : Nat) (x0 : Int) (x1 : Int) (x2 : Int) (h : MH) : Run d 183 0 [.inr (.inl x0), vU, .inr (.inl x1), vU, .inr (.inl x2), vU] [] h = (if (cmpL x0 x1) < 0 then some (some (.inl 0), h) else (if 0 < (cmpL x0 x2) then some (some (.inl 0), h) else some (some (.inl 1), h))) := by
  refine (R_lload_n zf183_0 rfl rfl).trans ?_
  refine (R_lload_n zf183_1 rfl rfl).trans ?_
  refine (R_lcmp zf183_2 rfl).trans ?_
  refine (R_if_lt (t := 17) zf183_3 rfl rfl).trans ?_
  refine ite_congr rfl (fun c1_ => ?_) (fun c1_ => ?_)
  · refine (R_iconst zf183_17 zw_0 rfl).trans ?_
    exact R_ireturn zf183_18 (by rw [zr_183]; rfl)
  · refine (R_lload_n zf183_6 rfl rfl).trans ?_
    refine (R_lload zf183_7 rfl rfl).trans ?_
    refine (R_lcmp zf183_9 rfl).trans ?_
    refine (R_if_gt (t := 17) zf183_10 rfl rfl).trans ?_
    refine ite_congr rfl (fun c2_ => ?_) (fun c2_ => ?_)
    · refine (R_iconst zf183_17 zw_0 rfl).trans ?_
      exact R_ireturn zf183_18 (by rw [zr_183]; rfl)
    · refine (R_iconst zf183_13 zw_1 rfl).trans ?_
      refine (R_goto (t := 18) zf183_14 rfl).trans ?_
      exact R_ireturn zf183_18 (by rw [zr_183]; rfl)
-- CannonPostModel.fault(I)I at 28
theorem q182_28 (d : Nat) (x0 : Int) (h : MH) : Run (d + 1) 182 28 [.inr (.inr (.inl 97)), .inl x0] [] h = (if ¬ x0 = 1 then (if ¬ x0 = 2 then some (some (.inl (h 97 11)), h) else (cV (Run d 213 0 [.inr (.inr (.inl 97)), vU, vU] [] h) fun h3_ => some (some (.inl (h3_ 97 11)), h3_))) else (cV (Run d 199 0 [.inr (.inr (.inl 97)), .inr (.inr (.inl 98)), .inl 0, .inl (h 97 6)] [] h) fun h4_ => (if ¬ x0 = 2 then some (some (.inl (h4_ 97 11)), h4_) else (cV (Run d 213 0 [.inr (.inr (.inl 97)), vU, vU] [] h4_) fun h6_ => some (some (.inl (h6_ 97 11)), h6_))))) := by
  refine (R_iload_n zf182_28 rfl rfl).trans ?_
  refine (R_iconst zf182_29 zw_1 rfl).trans ?_
  refine (R_icmp_ne (t := 46) zf182_30 rfl rfl).trans ?_
  refine ite_congr rfl (fun c1_ => ?_) (fun c1_ => ?_)
  · refine (R_iload_n zf182_46 rfl rfl).trans ?_
    refine (R_iconst zf182_47 zw_2 rfl).trans ?_
    refine (R_icmp_ne (t := 55) zf182_48 rfl rfl).trans ?_
    refine ite_congr rfl (fun c2_ => ?_) (fun c2_ => ?_)
    · refine (R_aload_n zf182_55 rfl zlt_97 rfl).trans ?_
      refine (R_getI zf182_56 zo_182 zfl_12_128 zk1_97 zft_12_11 rfl).trans ?_
      exact R_ireturn_i zf182_59 zr_182
    · refine (R_aload_n zf182_51 rfl zlt_97 rfl).trans ?_
      refine (R_vcallV zf182_52 zo_182 zvl_12_283 zr_213 zl_213 (Nat.le_of_ble_eq_true rfl) rfl rfl (Nat.le_of_ble_eq_true rfl) (Nat.le_of_ble_eq_true rfl) (es := [.inr (.inr (.inl 97)), vU, vU]) rfl rfl zk1_97 zo_213).trans ?_
      refine congrArg (cV _) (funext fun h3_ => ?_)
      refine (R_aload_n zf182_55 rfl zlt_97 rfl).trans ?_
      refine (R_getI zf182_56 zo_182 zfl_12_128 zk1_97 zft_12_11 rfl).trans ?_
      exact R_ireturn_i zf182_59 zr_182
  · refine (R_aload_n zf182_33 rfl zlt_97 rfl).trans ?_
    refine (R_aload_n zf182_34 rfl zlt_97 rfl).trans ?_
    refine (R_getR zf182_35 zo_182 zfl_12_9 zk1_97 zft_12_1 zmr_97_1 rfl).trans ?_
    refine (R_iconst zf182_38 zw_0 rfl).trans ?_
    refine (R_aload_n zf182_39 rfl zlt_97 rfl).trans ?_
    refine (R_getI zf182_40 zo_182 zfl_12_109 zk1_97 zft_12_6 rfl).trans ?_
    refine (R_vcallV zf182_43 zo_182 zvl_12_280 zr_199 zl_199 (Nat.le_of_ble_eq_true rfl) rfl rfl (Nat.le_of_ble_eq_true rfl) (Nat.le_of_ble_eq_true rfl) (es := [.inr (.inr (.inl 97)), .inr (.inr (.inl 98)), .inl 0, .inl (h 97 6)]) rfl rfl zk1_97 zo_199).trans ?_
    refine congrArg (cV _) (funext fun h4_ => ?_)
    refine (R_iload_n zf182_46 rfl rfl).trans ?_
    refine (R_iconst zf182_47 zw_2 rfl).trans ?_
    refine (R_icmp_ne (t := 55) zf182_48 rfl rfl).trans ?_
    refine ite_congr rfl (fun c5_ => ?_) (fun c5_ => ?_)
    · refine (R_aload_n zf182_55 rfl zlt_97 rfl).trans ?_
      refine (R_getI zf182_56 zo_182 zfl_12_128 zk1_97 zft_12_11 rfl).trans ?_
      exact R_ireturn_i zf182_59 zr_182
    · refine (R_aload_n zf182_51 rfl zlt_97 rfl).trans ?_
      refine (R_vcallV zf182_52 zo_182 zvl_12_283 zr_213 zl_213 (Nat.le_of_ble_eq_true rfl) rfl rfl (Nat.le_of_ble_eq_true rfl) (Nat.le_of_ble_eq_true rfl) (es := [.inr (.inr (.inl 97)), vU, vU]) rfl rfl zk1_97 zo_213).trans ?_
      refine congrArg (cV _) (funext fun h6_ => ?_)
      refine (R_aload_n zf182_55 rfl zlt_97 rfl).trans ?_
      refine (R_getI zf182_56 zo_182 zfl_12_128 zk1_97 zft_12_11 rfl).trans ?_
      exact R_ireturn_i zf182_59 zr_182
-- CannonPostModel.readLeague()V at 0
theorem q184_0 (d : Nat) (h : MH) : Run (d + 1) 184 0 [.inr (.inr (.inl 97)), vU] [] h = (cV (Run d 185 0 [.inr (.inr (.inl 97)), .inr (.inr (.inl 98)), .inl 0, .inl (h 97 6)] [] h) fun h1_ => Run (d + 1) 184 30 [.inr (.inr (.inl 97)), .inl 0] [] (up (up (up h1_ 97 28 0) 97 29 0) 97 31 0)) := by
  refine (R_aload_n zf184_0 rfl zlt_97 rfl).trans ?_
  refine (R_aload_n zf184_1 rfl zlt_97 rfl).trans ?_
  refine (R_getR zf184_2 zo_184 zfl_12_9 zk1_97 zft_12_1 zmr_97_1 rfl).trans ?_
  refine (R_iconst zf184_5 zw_0 rfl).trans ?_
  refine (R_aload_n zf184_6 rfl zlt_97 rfl).trans ?_
  refine (R_getI zf184_7 zo_184 zfl_12_109 zk1_97 zft_12_6 rfl).trans ?_
  refine (R_vcallV zf184_10 zo_184 zvl_12_207 zr_185 zl_185 (Nat.le_of_ble_eq_true rfl) rfl rfl (Nat.le_of_ble_eq_true rfl) (Nat.le_of_ble_eq_true rfl) (es := [.inr (.inr (.inl 97)), .inr (.inr (.inl 98)), .inl 0, .inl (h 97 6)]) rfl rfl zk1_97 zo_185).trans ?_
  refine congrArg (cV _) (funext fun h1_ => ?_)
  refine (R_aload_n zf184_13 rfl zlt_97 rfl).trans ?_
  refine (R_iconst zf184_14 zw_0 rfl).trans ?_
  refine (R_putI zf184_15 zo_184 zfl_12_245 zk1_97 zft_12_28 rfl).trans ?_
  refine (R_aload_n zf184_18 rfl zlt_97 rfl).trans ?_
  refine (R_iconst zf184_19 zw_0 rfl).trans ?_
  refine (R_putI zf184_20 zo_184 zfl_12_248 zk1_97 zft_12_29 rfl).trans ?_
  refine (R_aload_n zf184_23 rfl zlt_97 rfl).trans ?_
  refine (R_iconst zf184_24 zw_0 rfl).trans ?_
  refine (R_putZ zf184_25 zo_184 zfl_12_242 zk1_97 zft_12_31 rfl rfl).trans ?_
  refine (R_iconst zf184_28 zw_0 rfl).trans ?_
  refine (R_istore_n (ls' := [.inr (.inr (.inl 97)), .inl 0]) zf184_29 (Nat.le_of_ble_eq_true rfl) rfl rfl).trans ?_
  rfl
-- CannonPostModel.text(I)I at 43
theorem q216_43 (d : Nat) (x0 : Int) (z1 : MV) (hz1 : cat z1 = 1) (z2 : MV) (hz2 : cat z2 = 1) (h : MH) : Run (d + 1) 216 43 [.inr (.inr (.inl 97)), .inl x0, z1, z2] [] h = (cI (Run d 182 0 [.inr (.inr (.inl 97)), .inl x0] [] h) fun a2_ h1_ => (if a2_ = (-1) then (if ¬ x0 = 1 then (if ¬ x0 = 2 then Run (d + 1) 216 223 [.inr (.inr (.inl 97)), .inl x0, .inl (h1_ 97 6), .inl 0] [] (up (up (up h1_ 97 6 0) 97 26 ((up h1_ 97 6 0) 97 28)) 97 27 ((up (up h1_ 97 6 0) 97 26 ((up h1_ 97 6 0) 97 28)) 97 29)) else Run (d + 1) 216 137 [.inr (.inr (.inl 97)), .inl x0, .inl (h1_ 97 6), .inl 0] [] (up h1_ 97 6 0)) else Run (d + 1) 216 71 [.inr (.inr (.inl 97)), .inl x0, .inl (h1_ 97 6), .inl 0] [] (up h1_ 97 6 0)) else some (some (.inl (-1)), h1_))) := by
  refine (R_aload_n zf216_43 rfl zlt_97 rfl).trans ?_
  refine (R_iload_n zf216_44 rfl rfl).trans ?_
  refine (R_vcallI zf216_45 zo_216 zvl_12_292 (by rw [zr_182]; rfl) zl_182 (Nat.le_of_ble_eq_true rfl) rfl rfl (Nat.le_of_ble_eq_true rfl) (Nat.le_of_ble_eq_true rfl) (es := [.inr (.inr (.inl 97)), .inl x0]) rfl rfl zk1_97 zo_182).trans ?_
  refine congrArg (cI _) (funext fun a2_ => funext fun h1_ => ?_)
  refine (R_iconst zf216_48 zw_m1 rfl).trans ?_
  refine (R_icmp_eq (t := 54) zf216_49 rfl rfl).trans ?_
  refine ite_congr rfl (fun c3_ => ?_) (fun c3_ => ?_)
  · refine (R_aload_n zf216_54 rfl zlt_97 rfl).trans ?_
    refine (R_getI zf216_55 zo_216 zfl_12_109 zk1_97 zft_12_6 rfl).trans ?_
    refine (R_istore_n (ls' := [.inr (.inr (.inl 97)), .inl x0, .inl (h1_ 97 6), z2]) zf216_58 (Nat.le_of_ble_eq_true rfl) rfl rfl).trans ?_
    refine (R_aload_n zf216_59 rfl zlt_97 rfl).trans ?_
    refine (R_iconst zf216_60 zw_0 rfl).trans ?_
    refine (R_putI zf216_61 zo_216 zfl_12_109 zk1_97 zft_12_6 rfl).trans ?_
    refine (R_iload_n zf216_64 rfl rfl).trans ?_
    refine (R_iconst zf216_65 zw_1 rfl).trans ?_
    refine (R_icmp_ne (t := 130) zf216_66 rfl rfl).trans ?_
    refine ite_congr rfl (fun c4_ => ?_) (fun c4_ => ?_)
    · refine (R_iload_n zf216_130 rfl rfl).trans ?_
      refine (R_iconst zf216_131 zw_2 rfl).trans ?_
      refine (R_icmp_ne (t := 205) zf216_132 rfl rfl).trans ?_
      refine ite_congr rfl (fun c5_ => ?_) (fun c5_ => ?_)
      · refine (R_aload_n zf216_205 rfl zlt_97 rfl).trans ?_
        refine (R_aload_n zf216_206 rfl zlt_97 rfl).trans ?_
        refine (R_getI zf216_207 zo_216 zfl_12_245 zk1_97 zft_12_28 rfl).trans ?_
        refine (R_putI zf216_210 zo_216 zfl_12_294 zk1_97 zft_12_26 rfl).trans ?_
        refine (R_aload_n zf216_213 rfl zlt_97 rfl).trans ?_
        refine (R_aload_n zf216_214 rfl zlt_97 rfl).trans ?_
        refine (R_getI zf216_215 zo_216 zfl_12_248 zk1_97 zft_12_29 rfl).trans ?_
        refine (R_putI zf216_218 zo_216 zfl_12_297 zk1_97 zft_12_27 rfl).trans ?_
        refine (R_iconst zf216_221 zw_0 rfl).trans ?_
        refine (R_istore_n (ls' := [.inr (.inr (.inl 97)), .inl x0, .inl (h1_ 97 6), .inl 0]) zf216_222 (Nat.le_of_ble_eq_true rfl) rfl rfl).trans ?_
        rfl
      · refine (R_iconst zf216_135 zw_0 rfl).trans ?_
        refine (R_istore_n (ls' := [.inr (.inr (.inl 97)), .inl x0, .inl (h1_ 97 6), .inl 0]) zf216_136 (Nat.le_of_ble_eq_true rfl) rfl rfl).trans ?_
        rfl
    · refine (R_iconst zf216_69 zw_0 rfl).trans ?_
      refine (R_istore_n (ls' := [.inr (.inr (.inl 97)), .inl x0, .inl (h1_ 97 6), .inl 0]) zf216_70 (Nat.le_of_ble_eq_true rfl) rfl rfl).trans ?_
      rfl
  · refine (R_iconst zf216_52 zw_m1 rfl).trans ?_
    exact R_ireturn_i zf216_53 zr_216
-- CannonPostModel.isFort(I)Z at 0
theorem q220_0 (d : Nat) (x0 : Int) (h : MH) : Run d 220 0 [.inr (.inr (.inl 97)), .inl x0] [] h = (if x0 < 0 then some (some (.inl 0), h) else (if (h 97 26) ≤ x0 then some (some (.inl 0), h) else some (some (.inl 1), h))) := by
  refine (R_iload_n zf220_0 rfl rfl).trans ?_
  refine (R_if_lt (t := 16) zf220_1 rfl rfl).trans ?_
  refine ite_congr rfl (fun c1_ => ?_) (fun c1_ => ?_)
  · refine (R_iconst zf220_16 zw_0 rfl).trans ?_
    exact R_ireturn zf220_17 (by rw [zr_220]; rfl)
  · refine (R_iload_n zf220_4 rfl rfl).trans ?_
    refine (R_aload_n zf220_5 rfl zlt_97 rfl).trans ?_
    refine (R_getI zf220_6 zo_220 zfl_12_294 zk1_97 zft_12_26 rfl).trans ?_
    refine (R_icmp_ge (t := 16) zf220_9 rfl rfl).trans ?_
    refine ite_congr rfl (fun c2_ => ?_) (fun c2_ => ?_)
    · refine (R_iconst zf220_16 zw_0 rfl).trans ?_
      exact R_ireturn zf220_17 (by rw [zr_220]; rfl)
    · refine (R_iconst zf220_12 zw_1 rfl).trans ?_
      refine (R_goto (t := 17) zf220_13 rfl).trans ?_
      exact R_ireturn zf220_17 (by rw [zr_220]; rfl)
-- CannonPostModel.isCarrier(I)Z at 0
theorem q222_0 (d : Nat) (x0 : Int) (h : MH) : Run d 222 0 [.inr (.inr (.inl 97)), .inl x0] [] h = (if x0 < 0 then some (some (.inl 0), h) else (if (h 97 27) ≤ x0 then some (some (.inl 0), h) else some (some (.inl 1), h))) := by
  refine (R_iload_n zf222_0 rfl rfl).trans ?_
  refine (R_if_lt (t := 16) zf222_1 rfl rfl).trans ?_
  refine ite_congr rfl (fun c1_ => ?_) (fun c1_ => ?_)
  · refine (R_iconst zf222_16 zw_0 rfl).trans ?_
    exact R_ireturn zf222_17 (by rw [zr_222]; rfl)
  · refine (R_iload_n zf222_4 rfl rfl).trans ?_
    refine (R_aload_n zf222_5 rfl zlt_97 rfl).trans ?_
    refine (R_getI zf222_6 zo_222 zfl_12_297 zk1_97 zft_12_27 rfl).trans ?_
    refine (R_icmp_ge (t := 16) zf222_9 rfl rfl).trans ?_
    refine ite_congr rfl (fun c2_ => ?_) (fun c2_ => ?_)
    · refine (R_iconst zf222_16 zw_0 rfl).trans ?_
      exact R_ireturn zf222_17 (by rw [zr_222]; rfl)
    · refine (R_iconst zf222_12 zw_1 rfl).trans ?_
      refine (R_goto (t := 17) zf222_13 rfl).trans ?_
      exact R_ireturn zf222_17 (by rw [zr_222]; rfl)
-- CannonPostModel.carrier(II)I at 26
theorem q221_26 (d : Nat) (x0 : Int) (x1 : Int) (y2 : Int) (h : MH) : Run (d + 1) 221 26 [.inr (.inr (.inl 97)), .inl x0, .inl x1] [.inl y2, .inr (.inr (.inl 97))] h = (if ((up h 97 0 y2) 97 0) ≤ 0 then (if 2 ≤ x1 then (cI (Run d 217 0 [.inl x0] [] (up h 97 0 y2)) fun a4_ h3_ => (if 0 ≤ (wI ((wI (a4_ + x1)) - 2)) ∧ (wI ((wI (a4_ + x1)) - 2)) < 277 then some (some (.inl (h3_ 110 (wI ((wI (a4_ + x1)) - 2)).toNat)), h3_) else none)) else (cI (Run d 223 0 [.inr (.inr (.inl 97)), .inl x0, .inl x1] [] (up h 97 0 y2)) fun a7_ h6_ => some (some (.inl a7_), h6_))) else some (some (.inl 0), (up h 97 0 y2))) := by
  refine (R_putI zf221_26 zo_221 zfl_12_96 zk1_97 zft_12_0 rfl).trans ?_
  refine (R_aload_n zf221_29 rfl zlt_97 rfl).trans ?_
  refine (R_getI zf221_30 zo_221 zfl_12_96 zk1_97 zft_12_0 rfl).trans ?_
  refine (R_if_le (t := 38) zf221_33 rfl rfl).trans ?_
  refine ite_congr rfl (fun c1_ => ?_) (fun c1_ => ?_)
  · refine (R_iload_n zf221_38 rfl rfl).trans ?_
    refine (R_iconst zf221_39 zw_2 rfl).trans ?_
    refine (R_icmp_ge (t := 52) zf221_40 rfl rfl).trans ?_
    refine ite_congr rfl (fun c2_ => ?_) (fun c2_ => ?_)
    · refine (R_aload_n zf221_52 rfl zlt_97 rfl).trans ?_
      refine (R_getR zf221_53 zo_221 zfl_12_61 zk1_97 zft_12_32 zmr_97_32 rfl).trans ?_
      refine (R_iload_n zf221_56 rfl rfl).trans ?_
      refine (R_callI zf221_57 zo_221 zsl_12_300 (by rw [zr_217]; rfl) zl_217 (Nat.le_of_ble_eq_true rfl) rfl rfl (Nat.le_of_ble_eq_true rfl) (Nat.le_of_ble_eq_true rfl) (es := [.inl x0]) rfl rfl).trans ?_
      refine congrArg (cI _) (funext fun a4_ => funext fun h3_ => ?_)
      refine (R_iload_n zf221_60 rfl rfl).trans ?_
      refine (R_iadd zf221_61 rfl).trans ?_
      refine (R_iconst zf221_62 zw_2 rfl).trans ?_
      refine (R_isub zf221_63 rfl).trans ?_
      refine (R_iald zf221_64 zk_110 rfl).trans ?_
      refine ite_congr rfl (fun c5_ => ?_) (fun _ => rfl)
      exact R_ireturn_i zf221_65 zr_221
    · refine (R_aload_n zf221_43 rfl zlt_97 rfl).trans ?_
      refine (R_iload_n zf221_44 rfl rfl).trans ?_
      refine (R_iload_n zf221_45 rfl rfl).trans ?_
      refine (R_vcallI zf221_46 zo_221 zvl_12_315 (by rw [zr_223]; rfl) zl_223 (Nat.le_of_ble_eq_true rfl) rfl rfl (Nat.le_of_ble_eq_true rfl) (Nat.le_of_ble_eq_true rfl) (es := [.inr (.inr (.inl 97)), .inl x0, .inl x1]) rfl rfl zk1_97 zo_223).trans ?_
      refine congrArg (cI _) (funext fun a7_ => funext fun h6_ => ?_)
      refine (R_goto (t := 65) zf221_49 rfl).trans ?_
      exact R_ireturn_i zf221_65 zr_221
  · refine (R_iconst zf221_36 zw_0 rfl).trans ?_
    exact R_ireturn_i zf221_37 zr_221
-- CannonPostModel.canShoot([IIII)Z at 0
theorem q227_0 (d : Nat) (x0 : Int) (x1 : Int) (x2 : Int) (h : MH) : Run (d + 1) 227 0 [.inr (.inr (.inl 97)), .inr (.inr (.inl 110)), .inl x0, .inl x1, .inl x2] [] h = (cI (Run d 228 0 [.inr (.inr (.inl 97)), .inr (.inr (.inl 110)), .inl x0] [] h) fun a2_ h1_ => (if a2_ = 0 then some (some (.inl 0), h1_) else (cI (Run d 183 0 [.inr (.inl x2), vU, .inr (.inl 0), vU, .inr (.inl 1), vU] [] h1_) fun a5_ h4_ => (if a5_ = 0 then some (some (.inl 0), h4_) else (cI (Run d 183 0 [.inr (.inl x1), vU, .inr (.inl 1), vU, .inr (.inl 20), vU] [] h4_) fun a8_ h7_ => (if a8_ = 0 then some (some (.inl 0), h7_) else (if (h7_ 110 31) < x1 then some (some (.inl 0), h7_) else some (some (.inl 1), h7_)))))))) := by
  refine (R_aload_n zf227_0 rfl zlt_97 rfl).trans ?_
  refine (R_aload_n zf227_1 rfl zlt_110 rfl).trans ?_
  refine (R_iload_n zf227_2 rfl rfl).trans ?_
  refine (R_vcallI zf227_3 zo_227 zvl_12_342 (by rw [zr_228]; rfl) zl_228 (Nat.le_of_ble_eq_true rfl) rfl rfl (Nat.le_of_ble_eq_true rfl) (Nat.le_of_ble_eq_true rfl) (es := [.inr (.inr (.inl 97)), .inr (.inr (.inl 110)), .inl x0]) rfl rfl zk1_97 zo_228).trans ?_
  refine congrArg (cI _) (funext fun a2_ => funext fun h1_ => ?_)
  refine (R_if_eq (t := 44) zf227_6 rfl rfl).trans ?_
  refine ite_congr rfl (fun c3_ => ?_) (fun c3_ => ?_)
  · refine (R_iconst zf227_44 zw_0 rfl).trans ?_
    exact R_ireturn zf227_45 (by rw [zr_227]; rfl)
  · refine (R_iload zf227_9 rfl rfl).trans ?_
    refine (R_i2l zf227_11 rfl).trans ?_
    refine (R_lconst (v := 0) zf227_12 rfl rfl).trans ?_
    refine (R_lconst (v := 1) zf227_13 rfl rfl).trans ?_
    refine (R_callI zf227_14 zo_227 zsl_12_217 (by rw [zr_183]; rfl) zl_183 (Nat.le_of_ble_eq_true rfl) rfl rfl (Nat.le_of_ble_eq_true rfl) (Nat.le_of_ble_eq_true rfl) (es := [.inr (.inl x2), vU, .inr (.inl 0), vU, .inr (.inl 1), vU]) rfl rfl).trans ?_
    refine congrArg (cI _) (funext fun a5_ => funext fun h4_ => ?_)
    refine (R_if_eq (t := 44) zf227_17 rfl rfl).trans ?_
    refine ite_congr rfl (fun c6_ => ?_) (fun c6_ => ?_)
    · refine (R_iconst zf227_44 zw_0 rfl).trans ?_
      exact R_ireturn zf227_45 (by rw [zr_227]; rfl)
    · refine (R_iload_n zf227_20 rfl rfl).trans ?_
      refine (R_i2l zf227_21 rfl).trans ?_
      refine (R_lconst (v := 1) zf227_22 rfl rfl).trans ?_
      refine (R_ldc2_w zf227_23 zo_227 zll_12_346 rfl).trans ?_
      refine (R_callI zf227_26 zo_227 zsl_12_217 (by rw [zr_183]; rfl) zl_183 (Nat.le_of_ble_eq_true rfl) rfl rfl (Nat.le_of_ble_eq_true rfl) (Nat.le_of_ble_eq_true rfl) (es := [.inr (.inl x1), vU, .inr (.inl 1), vU, .inr (.inl 20), vU]) rfl rfl).trans ?_
      refine congrArg (cI _) (funext fun a8_ => funext fun h7_ => ?_)
      refine (R_if_eq (t := 44) zf227_29 rfl rfl).trans ?_
      refine ite_congr rfl (fun c9_ => ?_) (fun c9_ => ?_)
      · refine (R_iconst zf227_44 zw_0 rfl).trans ?_
        exact R_ireturn zf227_45 (by rw [zr_227]; rfl)
      · refine (R_iload_n zf227_32 rfl rfl).trans ?_
        refine (R_aload_n zf227_33 rfl zlt_110 rfl).trans ?_
        refine (R_bipush zf227_34 zb_31 rfl).trans ?_
        refine (R_ialdc zf227_36 zk_110 (by decide) rfl rfl).trans ?_
        refine (R_icmp_gt (t := 44) zf227_37 rfl rfl).trans ?_
        refine ite_congr rfl (fun c10_ => ?_) (fun c10_ => ?_)
        · refine (R_iconst zf227_44 zw_0 rfl).trans ?_
          exact R_ireturn zf227_45 (by rw [zr_227]; rfl)
        · refine (R_iconst zf227_40 zw_1 rfl).trans ?_
          refine (R_goto (t := 45) zf227_41 rfl).trans ?_
          exact R_ireturn zf227_45 (by rw [zr_227]; rfl)
-- CannonPostModel.folk(I)I at 0
theorem q217_0 (d : Nat) (x0 : Int) (h : MH) : Run d 217 0 [.inl x0] [] h = some (some (.inl (wI (16 + (wI (3 * x0))))), h) := by
  refine (R_bipush zf217_0 zb_16 rfl).trans ?_
  refine (R_iconst zf217_2 zw_3 rfl).trans ?_
  refine (R_iload_n zf217_3 rfl rfl).trans ?_
  refine (R_imul zf217_4 rfl).trans ?_
  refine (R_iadd zf217_5 rfl).trans ?_
  exact R_ireturn_i zf217_6 zr_217
-- java/lang/Integer.bitCount(I)I at 0
theorem q76_0 (d : Nat) (x0 : Int) (h : MH) : Run d 76 0 [.inl x0] [] h = some (some (.inl (iAnd (wI ((wI ((iAnd (wI ((wI ((iAnd (wI (x0 - (iAnd (iUshr x0 1) 1431655765))) 858993459) + (iAnd (iUshr (wI (x0 - (iAnd (iUshr x0 1) 1431655765))) 2) 858993459))) + (iUshr (wI ((iAnd (wI (x0 - (iAnd (iUshr x0 1) 1431655765))) 858993459) + (iAnd (iUshr (wI (x0 - (iAnd (iUshr x0 1) 1431655765))) 2) 858993459))) 4))) 252645135) + (iUshr (iAnd (wI ((wI ((iAnd (wI (x0 - (iAnd (iUshr x0 1) 1431655765))) 858993459) + (iAnd (iUshr (wI (x0 - (iAnd (iUshr x0 1) 1431655765))) 2) 858993459))) + (iUshr (wI ((iAnd (wI (x0 - (iAnd (iUshr x0 1) 1431655765))) 858993459) + (iAnd (iUshr (wI (x0 - (iAnd (iUshr x0 1) 1431655765))) 2) 858993459))) 4))) 252645135) 8))) + (iUshr (wI ((iAnd (wI ((wI ((iAnd (wI (x0 - (iAnd (iUshr x0 1) 1431655765))) 858993459) + (iAnd (iUshr (wI (x0 - (iAnd (iUshr x0 1) 1431655765))) 2) 858993459))) + (iUshr (wI ((iAnd (wI (x0 - (iAnd (iUshr x0 1) 1431655765))) 858993459) + (iAnd (iUshr (wI (x0 - (iAnd (iUshr x0 1) 1431655765))) 2) 858993459))) 4))) 252645135) + (iUshr (iAnd (wI ((wI ((iAnd (wI (x0 - (iAnd (iUshr x0 1) 1431655765))) 858993459) + (iAnd (iUshr (wI (x0 - (iAnd (iUshr x0 1) 1431655765))) 2) 858993459))) + (iUshr (wI ((iAnd (wI (x0 - (iAnd (iUshr x0 1) 1431655765))) 858993459) + (iAnd (iUshr (wI (x0 - (iAnd (iUshr x0 1) 1431655765))) 2) 858993459))) 4))) 252645135) 8))) 16))) 63)), h) := by
  refine (R_iload_n zf76_0 rfl rfl).trans ?_
  refine (R_iload_n zf76_1 rfl rfl).trans ?_
  refine (R_iconst zf76_2 zw_1 rfl).trans ?_
  refine (R_iushr zf76_3 rfl).trans ?_
  refine (R_ldc_w zf76_4 zo_76 zcl_18_265 rfl).trans ?_
  refine (R_iand zf76_7 rfl).trans ?_
  refine (R_isub zf76_8 rfl).trans ?_
  refine (R_istore_n (ls' := [.inl (wI (x0 - (iAnd (iUshr x0 1) 1431655765)))]) zf76_9 (Nat.le_of_ble_eq_true rfl) rfl rfl).trans ?_
  refine (R_iload_n zf76_10 rfl rfl).trans ?_
  refine (R_ldc_w zf76_11 zo_76 zcl_18_266 rfl).trans ?_
  refine (R_iand zf76_14 rfl).trans ?_
  refine (R_iload_n zf76_15 rfl rfl).trans ?_
  refine (R_iconst zf76_16 zw_2 rfl).trans ?_
  refine (R_iushr zf76_17 rfl).trans ?_
  refine (R_ldc_w zf76_18 zo_76 zcl_18_266 rfl).trans ?_
  refine (R_iand zf76_21 rfl).trans ?_
  refine (R_iadd zf76_22 rfl).trans ?_
  refine (R_istore_n (ls' := [.inl (wI ((iAnd (wI (x0 - (iAnd (iUshr x0 1) 1431655765))) 858993459) + (iAnd (iUshr (wI (x0 - (iAnd (iUshr x0 1) 1431655765))) 2) 858993459)))]) zf76_23 (Nat.le_of_ble_eq_true rfl) rfl rfl).trans ?_
  refine (R_iload_n zf76_24 rfl rfl).trans ?_
  refine (R_iload_n zf76_25 rfl rfl).trans ?_
  refine (R_iconst zf76_26 zw_4 rfl).trans ?_
  refine (R_iushr zf76_27 rfl).trans ?_
  refine (R_iadd zf76_28 rfl).trans ?_
  refine (R_ldc_w zf76_29 zo_76 zcl_18_267 rfl).trans ?_
  refine (R_iand zf76_32 rfl).trans ?_
  refine (R_istore_n (ls' := [.inl (iAnd (wI ((wI ((iAnd (wI (x0 - (iAnd (iUshr x0 1) 1431655765))) 858993459) + (iAnd (iUshr (wI (x0 - (iAnd (iUshr x0 1) 1431655765))) 2) 858993459))) + (iUshr (wI ((iAnd (wI (x0 - (iAnd (iUshr x0 1) 1431655765))) 858993459) + (iAnd (iUshr (wI (x0 - (iAnd (iUshr x0 1) 1431655765))) 2) 858993459))) 4))) 252645135)]) zf76_33 (Nat.le_of_ble_eq_true rfl) rfl rfl).trans ?_
  refine (R_iload_n zf76_34 rfl rfl).trans ?_
  refine (R_iload_n zf76_35 rfl rfl).trans ?_
  refine (R_bipush zf76_36 zb_8 rfl).trans ?_
  refine (R_iushr zf76_38 rfl).trans ?_
  refine (R_iadd zf76_39 rfl).trans ?_
  refine (R_istore_n (ls' := [.inl (wI ((iAnd (wI ((wI ((iAnd (wI (x0 - (iAnd (iUshr x0 1) 1431655765))) 858993459) + (iAnd (iUshr (wI (x0 - (iAnd (iUshr x0 1) 1431655765))) 2) 858993459))) + (iUshr (wI ((iAnd (wI (x0 - (iAnd (iUshr x0 1) 1431655765))) 858993459) + (iAnd (iUshr (wI (x0 - (iAnd (iUshr x0 1) 1431655765))) 2) 858993459))) 4))) 252645135) + (iUshr (iAnd (wI ((wI ((iAnd (wI (x0 - (iAnd (iUshr x0 1) 1431655765))) 858993459) + (iAnd (iUshr (wI (x0 - (iAnd (iUshr x0 1) 1431655765))) 2) 858993459))) + (iUshr (wI ((iAnd (wI (x0 - (iAnd (iUshr x0 1) 1431655765))) 858993459) + (iAnd (iUshr (wI (x0 - (iAnd (iUshr x0 1) 1431655765))) 2) 858993459))) 4))) 252645135) 8)))]) zf76_40 (Nat.le_of_ble_eq_true rfl) rfl rfl).trans ?_
  refine (R_iload_n zf76_41 rfl rfl).trans ?_
  refine (R_iload_n zf76_42 rfl rfl).trans ?_
  refine (R_bipush zf76_43 zb_16 rfl).trans ?_
  refine (R_iushr zf76_45 rfl).trans ?_
  refine (R_iadd zf76_46 rfl).trans ?_
  refine (R_istore_n (ls' := [.inl (wI ((wI ((iAnd (wI ((wI ((iAnd (wI (x0 - (iAnd (iUshr x0 1) 1431655765))) 858993459) + (iAnd (iUshr (wI (x0 - (iAnd (iUshr x0 1) 1431655765))) 2) 858993459))) + (iUshr (wI ((iAnd (wI (x0 - (iAnd (iUshr x0 1) 1431655765))) 858993459) + (iAnd (iUshr (wI (x0 - (iAnd (iUshr x0 1) 1431655765))) 2) 858993459))) 4))) 252645135) + (iUshr (iAnd (wI ((wI ((iAnd (wI (x0 - (iAnd (iUshr x0 1) 1431655765))) 858993459) + (iAnd (iUshr (wI (x0 - (iAnd (iUshr x0 1) 1431655765))) 2) 858993459))) + (iUshr (wI ((iAnd (wI (x0 - (iAnd (iUshr x0 1) 1431655765))) 858993459) + (iAnd (iUshr (wI (x0 - (iAnd (iUshr x0 1) 1431655765))) 2) 858993459))) 4))) 252645135) 8))) + (iUshr (wI ((iAnd (wI ((wI ((iAnd (wI (x0 - (iAnd (iUshr x0 1) 1431655765))) 858993459) + (iAnd (iUshr (wI (x0 - (iAnd (iUshr x0 1) 1431655765))) 2) 858993459))) + (iUshr (wI ((iAnd (wI (x0 - (iAnd (iUshr x0 1) 1431655765))) 858993459) + (iAnd (iUshr (wI (x0 - (iAnd (iUshr x0 1) 1431655765))) 2) 858993459))) 4))) 252645135) + (iUshr (iAnd (wI ((wI ((iAnd (wI (x0 - (iAnd (iUshr x0 1) 1431655765))) 858993459) + (iAnd (iUshr (wI (x0 - (iAnd (iUshr x0 1) 1431655765))) 2) 858993459))) + (iUshr (wI ((iAnd (wI (x0 - (iAnd (iUshr x0 1) 1431655765))) 858993459) + (iAnd (iUshr (wI (x0 - (iAnd (iUshr x0 1) 1431655765))) 2) 858993459))) 4))) 252645135) 8))) 16)))]) zf76_47 (Nat.le_of_ble_eq_true rfl) rfl rfl).trans ?_
  refine (R_iload_n zf76_48 rfl rfl).trans ?_
  refine (R_bipush zf76_49 zb_63 rfl).trans ?_
  refine (R_iand zf76_51 rfl).trans ?_
  exact R_ireturn_i zf76_52 zr_76
-- CannonPostModel.remember()V at 0
theorem q229_0 (d : Nat) (h : MH) : Run d 229 0 [.inr (.inr (.inl 97)), vU] [] h = (if ¬ (h 97 37) = 40 then Run d 229 52 [.inr (.inr (.inl 97)), .inl 0] [] h else Run d 229 11 [.inr (.inr (.inl 97)), .inl 0] [] h) := by
  refine (R_aload_n zf229_0 rfl zlt_97 rfl).trans ?_
  refine (R_getI zf229_1 zo_229 zfl_12_309 zk1_97 zft_12_37 rfl).trans ?_
  refine (R_bipush zf229_4 zb_40 rfl).trans ?_
  refine (R_icmp_ne (t := 50) zf229_6 rfl rfl).trans ?_
  refine ite_congr rfl (fun c1_ => ?_) (fun c1_ => ?_)
  · refine (R_iconst zf229_50 zw_0 rfl).trans ?_
    refine (R_istore_n (ls' := [.inr (.inr (.inl 97)), .inl 0]) zf229_51 (Nat.le_of_ble_eq_true rfl) rfl rfl).trans ?_
    rfl
  · refine (R_iconst zf229_9 zw_0 rfl).trans ?_
    refine (R_istore_n (ls' := [.inr (.inr (.inl 97)), .inl 0]) zf229_10 (Nat.le_of_ble_eq_true rfl) rfl rfl).trans ?_
    rfl
-- CannonPostModel.shoots([IIIII)I at 0
theorem q230_0 (d : Nat) (x0 : Int) (x1 : Int) (x2 : Int) (x3 : Int) (h : MH) : Run (d + 1) 230 0 [.inr (.inr (.inl 97)), .inr (.inr (.inl 110)), .inl x0, .inl x1, .inl x2, .inl x3, vU, vU, vU] [] h = (cI (Run d 217 0 [.inl x0] [] h) fun a2_ h1_ => (if 0 ≤ a2_ ∧ a2_ < 277 then (cI (Run d 231 0 [.inr (.inr (.inl 97)), .inr (.inr (.inl 110)), .inl x0, .inl (h1_ 110 a2_.toNat), .inl x1, .inl x2] [] h1_) fun a5_ h4_ => (cI (Run d 235 0 [.inr (.inr (.inl 97)), .inl a5_, vU] [] h4_) fun a7_ h6_ => (if ¬ a7_ = (-1) then (if 0 ≤ (wI (0 + a7_)) ∧ (wI (0 + a7_)) < 277 then (if ((up h6_ 110 31 (wI ((h6_ 110 31) - x1))) 110 (wI (0 + a7_)).toNat) ≤ 0 then (cI (Run d 217 0 [.inl x0] [] (up h6_ 110 31 (wI ((h6_ 110 31) - x1)))) fun a12_ h11_ => (cI (Run d 217 0 [.inl x0] [] h11_) fun a14_ h13_ => (if 0 ≤ (wI (a14_ + 1)) ∧ (wI (a14_ + 1)) < 277 then (if 0 ≤ (wI (a12_ + 1)) ∧ (wI (a12_ + 1)) < 277 then Run (d + 1) 230 96 [.inr (.inr (.inl 97)), .inr (.inr (.inl 110)), .inl x0, .inl x1, .inl x2, .inl x3, .inl (h1_ 110 a2_.toNat), .inl a7_, vU] [] (up h13_ 110 (wI (a12_ + 1)).toNat (mn 99 (wI ((h13_ 110 (wI (a14_ + 1)).toNat) + 1)))) else none) else none))) else (if 0 ≤ (wI (0 + a7_)) ∧ (wI (0 + a7_)) < 277 then (if 0 ≤ (wI (0 + a7_)) ∧ (wI (0 + a7_)) < 277 then Run (d + 1) 230 96 [.inr (.inr (.inl 97)), .inr (.inr (.inl 110)), .inl x0, .inl x1, .inl x2, .inl x3, .inl (h1_ 110 a2_.toNat), .inl a7_, vU] [] (up (up h6_ 110 31 (wI ((h6_ 110 31) - x1))) 110 (wI (0 + a7_)).toNat (wI (((up h6_ 110 31 (wI ((h6_ 110 31) - x1))) 110 (wI (0 + a7_)).toNat) - 1))) else none) else none)) else none) else (cI (Run d 217 0 [.inl x0] [] (up h6_ 110 31 (wI ((h6_ 110 31) - x1)))) fun a20_ h19_ => (if 0 ≤ (wI (a20_ + 2)) ∧ (wI (a20_ + 2)) < 277 then (if ¬ ((up h19_ 110 (wI (a20_ + 2)).toNat 2) 110 36) = 60 then Run (d + 1) 230 166 [.inr (.inr (.inl 97)), .inr (.inr (.inl 110)), .inl x0, .inl x1, .inl x2, .inl x3, .inl (h1_ 110 a2_.toNat), .inl a7_, vU] [] (up h19_ 110 (wI (a20_ + 2)).toNat 2) else Run (d + 1) 230 128 [.inr (.inr (.inl 97)), .inr (.inr (.inl 110)), .inl x0, .inl x1, .inl x2, .inl x3, .inl (h1_ 110 a2_.toNat), .inl a7_, .inl 1] [] (up h19_ 110 (wI (a20_ + 2)).toNat 2)) else none))))) else none)) := by
  refine (R_aload_n zf230_0 rfl zlt_110 rfl).trans ?_
  refine (R_iload_n zf230_1 rfl rfl).trans ?_
  refine (R_callI zf230_2 zo_230 zsl_12_300 (by rw [zr_217]; rfl) zl_217 (Nat.le_of_ble_eq_true rfl) rfl rfl (Nat.le_of_ble_eq_true rfl) (Nat.le_of_ble_eq_true rfl) (es := [.inl x0]) rfl rfl).trans ?_
  refine congrArg (cI _) (funext fun a2_ => funext fun h1_ => ?_)
  refine (R_iald zf230_5 zk_110 rfl).trans ?_
  refine ite_congr rfl (fun c3_ => ?_) (fun _ => rfl)
  refine (R_istore (ls' := [.inr (.inr (.inl 97)), .inr (.inr (.inl 110)), .inl x0, .inl x1, .inl x2, .inl x3, .inl (h1_ 110 a2_.toNat), vU, vU]) zf230_6 (Nat.le_of_ble_eq_true rfl) rfl rfl).trans ?_
  refine (R_aload_n zf230_8 rfl zlt_97 rfl).trans ?_
  refine (R_aload_n zf230_9 rfl zlt_97 rfl).trans ?_
  refine (R_aload_n zf230_10 rfl zlt_110 rfl).trans ?_
  refine (R_iload_n zf230_11 rfl rfl).trans ?_
  refine (R_iload zf230_12 rfl rfl).trans ?_
  refine (R_iload_n zf230_14 rfl rfl).trans ?_
  refine (R_iload zf230_15 rfl rfl).trans ?_
  refine (R_vcallI zf230_17 zo_230 zvl_12_348 (by rw [zr_231]; rfl) zl_231 (Nat.le_of_ble_eq_true rfl) rfl rfl (Nat.le_of_ble_eq_true rfl) (Nat.le_of_ble_eq_true rfl) (es := [.inr (.inr (.inl 97)), .inr (.inr (.inl 110)), .inl x0, .inl (h1_ 110 a2_.toNat), .inl x1, .inl x2]) rfl rfl zk1_97 zo_231).trans ?_
  refine congrArg (cI _) (funext fun a5_ => funext fun h4_ => ?_)
  refine (R_vcallI zf230_20 zo_230 zvl_12_352 (by rw [zr_235]; rfl) zl_235 (Nat.le_of_ble_eq_true rfl) rfl rfl (Nat.le_of_ble_eq_true rfl) (Nat.le_of_ble_eq_true rfl) (es := [.inr (.inr (.inl 97)), .inl a5_, vU]) rfl rfl zk1_97 zo_235).trans ?_
  refine congrArg (cI _) (funext fun a7_ => funext fun h6_ => ?_)
  refine (R_istore (ls' := [.inr (.inr (.inl 97)), .inr (.inr (.inl 110)), .inl x0, .inl x1, .inl x2, .inl x3, .inl (h1_ 110 a2_.toNat), .inl a7_, vU]) zf230_23 (Nat.le_of_ble_eq_true rfl) rfl rfl).trans ?_
  refine (R_aload_n zf230_25 rfl zlt_110 rfl).trans ?_
  refine (R_bipush zf230_26 zb_31 rfl).trans ?_
  refine (R_dup2 zf230_28 rfl rfl rfl).trans ?_
  refine (R_ialdc zf230_29 zk_110 (by decide) rfl rfl).trans ?_
  refine (R_iload_n zf230_30 rfl rfl).trans ?_
  refine (R_isub zf230_31 rfl).trans ?_
  refine (R_iastc zf230_32 zk_110 (by decide) rfl rfl).trans ?_
  refine (R_iload zf230_33 rfl rfl).trans ?_
  refine (R_iconst zf230_35 zw_m1 rfl).trans ?_
  refine (R_icmp_ne (t := 51) zf230_36 rfl rfl).trans ?_
  refine ite_congr rfl (fun c8_ => ?_) (fun c8_ => ?_)
  · refine (R_aload_n zf230_51 rfl zlt_110 rfl).trans ?_
    refine (R_iconst zf230_52 zw_0 rfl).trans ?_
    refine (R_iload zf230_53 rfl rfl).trans ?_
    refine (R_iadd zf230_55 rfl).trans ?_
    refine (R_iald zf230_56 zk_110 rfl).trans ?_
    refine ite_congr rfl (fun c9_ => ?_) (fun _ => rfl)
    refine (R_if_le (t := 73) zf230_57 rfl rfl).trans ?_
    refine ite_congr rfl (fun c10_ => ?_) (fun c10_ => ?_)
    · refine (R_aload_n zf230_73 rfl zlt_110 rfl).trans ?_
      refine (R_iload_n zf230_74 rfl rfl).trans ?_
      refine (R_callI zf230_75 zo_230 zsl_12_300 (by rw [zr_217]; rfl) zl_217 (Nat.le_of_ble_eq_true rfl) rfl rfl (Nat.le_of_ble_eq_true rfl) (Nat.le_of_ble_eq_true rfl) (es := [.inl x0]) rfl rfl).trans ?_
      refine congrArg (cI _) (funext fun a12_ => funext fun h11_ => ?_)
      refine (R_iconst zf230_78 zw_1 rfl).trans ?_
      refine (R_iadd zf230_79 rfl).trans ?_
      refine (R_bipush zf230_80 zb_99 rfl).trans ?_
      refine (R_aload_n zf230_82 rfl zlt_110 rfl).trans ?_
      refine (R_iload_n zf230_83 rfl rfl).trans ?_
      refine (R_callI zf230_84 zo_230 zsl_12_300 (by rw [zr_217]; rfl) zl_217 (Nat.le_of_ble_eq_true rfl) rfl rfl (Nat.le_of_ble_eq_true rfl) (Nat.le_of_ble_eq_true rfl) (es := [.inl x0]) rfl rfl).trans ?_
      refine congrArg (cI _) (funext fun a14_ => funext fun h13_ => ?_)
      refine (R_iconst zf230_87 zw_1 rfl).trans ?_
      refine (R_iadd zf230_88 rfl).trans ?_
      refine (R_iald zf230_89 zk_110 rfl).trans ?_
      refine ite_congr rfl (fun c15_ => ?_) (fun _ => rfl)
      refine (R_iconst zf230_90 zw_1 rfl).trans ?_
      refine (R_iadd zf230_91 rfl).trans ?_
      refine (R_mmin zf230_92 zo_230 zsl_12_318 zml_12_318 zna_12_318 (Nat.le_of_ble_eq_true rfl) rfl).trans ?_
      refine (R_iast zf230_95 zk_110 rfl).trans ?_
      refine ite_congr rfl (fun c16_ => ?_) (fun _ => rfl)
      rfl
    · refine (R_aload_n zf230_60 rfl zlt_110 rfl).trans ?_
      refine (R_iconst zf230_61 zw_0 rfl).trans ?_
      refine (R_iload zf230_62 rfl rfl).trans ?_
      refine (R_iadd zf230_64 rfl).trans ?_
      refine (R_dup2 zf230_65 rfl rfl rfl).trans ?_
      refine (R_iald zf230_66 zk_110 rfl).trans ?_
      refine ite_congr rfl (fun c17_ => ?_) (fun _ => rfl)
      refine (R_iconst zf230_67 zw_1 rfl).trans ?_
      refine (R_isub zf230_68 rfl).trans ?_
      refine (R_iast zf230_69 zk_110 rfl).trans ?_
      refine ite_congr rfl (fun c18_ => ?_) (fun _ => rfl)
      refine (R_goto (t := 96) zf230_70 rfl).trans ?_
      rfl
  · refine (R_aload_n zf230_39 rfl zlt_110 rfl).trans ?_
    refine (R_iload_n zf230_40 rfl rfl).trans ?_
    refine (R_callI zf230_41 zo_230 zsl_12_300 (by rw [zr_217]; rfl) zl_217 (Nat.le_of_ble_eq_true rfl) rfl rfl (Nat.le_of_ble_eq_true rfl) (Nat.le_of_ble_eq_true rfl) (es := [.inl x0]) rfl rfl).trans ?_
    refine congrArg (cI _) (funext fun a20_ => funext fun h19_ => ?_)
    refine (R_iconst zf230_44 zw_2 rfl).trans ?_
    refine (R_iadd zf230_45 rfl).trans ?_
    refine (R_iconst zf230_46 zw_2 rfl).trans ?_
    refine (R_iast zf230_47 zk_110 rfl).trans ?_
    refine ite_congr rfl (fun c21_ => ?_) (fun _ => rfl)
    refine (R_goto (t := 116) zf230_48 rfl).trans ?_
    refine (R_aload_n zf230_116 rfl zlt_110 rfl).trans ?_
    refine (R_bipush zf230_117 zb_36 rfl).trans ?_
    refine (R_ialdc zf230_119 zk_110 (by decide) rfl rfl).trans ?_
    refine (R_bipush zf230_120 zb_60 rfl).trans ?_
    refine (R_icmp_ne (t := 166) zf230_122 rfl rfl).trans ?_
    refine ite_congr rfl (fun c22_ => ?_) (fun c22_ => ?_)
    · rfl
    · refine (R_iconst zf230_125 zw_1 rfl).trans ?_
      refine (R_istore (ls' := [.inr (.inr (.inl 97)), .inr (.inr (.inl 110)), .inl x0, .inl x1, .inl x2, .inl x3, .inl (h1_ 110 a2_.toNat), .inl a7_, .inl 1]) zf230_126 (Nat.le_of_ble_eq_true rfl) rfl rfl).trans ?_
      rfl
-- CannonPostModel.canHear([III)Z at 0
theorem q238_0 (d : Nat) (x0 : Int) (x1 : Int) (h : MH) : Run (d + 1) 238 0 [.inr (.inr (.inl 97)), .inr (.inr (.inl 110)), .inl x0, .inl x1] [] h = (cI (Run d 220 0 [.inr (.inr (.inl 97)), .inl x0] [] h) fun a2_ h1_ => (if a2_ = 0 then some (some (.inl 0), h1_) else (cI (Run d 183 0 [.inr (.inl x1), vU, .inr (.inl 0), vU, .inr (.inl 5), vU] [] h1_) fun a5_ h4_ => (if a5_ = 0 then some (some (.inl 0), h4_) else (if 0 ≤ (wI (8 + x0)) ∧ (wI (8 + x0)) < 277 then (cI (Run d 192 0 [.inl (h4_ 110 (wI (8 + x0)).toNat), .inl x1] [] h4_) fun a9_ h8_ => (if ¬ a9_ = 0 then some (some (.inl 0), h8_) else some (some (.inl 1), h8_))) else none))))) := by
  refine (R_aload_n zf238_0 rfl zlt_97 rfl).trans ?_
  refine (R_iload_n zf238_1 rfl rfl).trans ?_
  refine (R_vcallI zf238_2 zo_238 zvl_12_362 (by rw [zr_220]; rfl) zl_220 (Nat.le_of_ble_eq_true rfl) rfl rfl (Nat.le_of_ble_eq_true rfl) (Nat.le_of_ble_eq_true rfl) (es := [.inr (.inr (.inl 97)), .inl x0]) rfl rfl zk1_97 zo_220).trans ?_
  refine congrArg (cI _) (funext fun a2_ => funext fun h1_ => ?_)
  refine (R_if_eq (t := 37) zf238_5 rfl rfl).trans ?_
  refine ite_congr rfl (fun c3_ => ?_) (fun c3_ => ?_)
  · refine (R_iconst zf238_37 zw_0 rfl).trans ?_
    exact R_ireturn zf238_38 (by rw [zr_238]; rfl)
  · refine (R_iload_n zf238_8 rfl rfl).trans ?_
    refine (R_i2l zf238_9 rfl).trans ?_
    refine (R_lconst (v := 0) zf238_10 rfl rfl).trans ?_
    refine (R_ldc2_w zf238_11 zo_238 zll_12_384 rfl).trans ?_
    refine (R_callI zf238_14 zo_238 zsl_12_217 (by rw [zr_183]; rfl) zl_183 (Nat.le_of_ble_eq_true rfl) rfl rfl (Nat.le_of_ble_eq_true rfl) (Nat.le_of_ble_eq_true rfl) (es := [.inr (.inl x1), vU, .inr (.inl 0), vU, .inr (.inl 5), vU]) rfl rfl).trans ?_
    refine congrArg (cI _) (funext fun a5_ => funext fun h4_ => ?_)
    refine (R_if_eq (t := 37) zf238_17 rfl rfl).trans ?_
    refine ite_congr rfl (fun c6_ => ?_) (fun c6_ => ?_)
    · refine (R_iconst zf238_37 zw_0 rfl).trans ?_
      exact R_ireturn zf238_38 (by rw [zr_238]; rfl)
    · refine (R_aload_n zf238_20 rfl zlt_110 rfl).trans ?_
      refine (R_bipush zf238_21 zb_8 rfl).trans ?_
      refine (R_iload_n zf238_23 rfl rfl).trans ?_
      refine (R_iadd zf238_24 rfl).trans ?_
      refine (R_iald zf238_25 zk_110 rfl).trans ?_
      refine ite_congr rfl (fun c7_ => ?_) (fun _ => rfl)
      refine (R_iload_n zf238_26 rfl rfl).trans ?_
      refine (R_callI zf238_27 zo_238 zsl_12_229 (by rw [zr_192]; rfl) zl_192 (Nat.le_of_ble_eq_true rfl) rfl rfl (Nat.le_of_ble_eq_true rfl) (Nat.le_of_ble_eq_true rfl) (es := [.inl (h4_ 110 (wI (8 + x0)).toNat), .inl x1]) rfl rfl).trans ?_
      refine congrArg (cI _) (funext fun a9_ => funext fun h8_ => ?_)
      refine (R_if_ne (t := 37) zf238_30 rfl rfl).trans ?_
      refine ite_congr rfl (fun c10_ => ?_) (fun c10_ => ?_)
      · refine (R_iconst zf238_37 zw_0 rfl).trans ?_
        exact R_ireturn zf238_38 (by rw [zr_238]; rfl)
      · refine (R_iconst zf238_33 zw_1 rfl).trans ?_
        refine (R_goto (t := 38) zf238_34 rfl).trans ?_
        exact R_ireturn zf238_38 (by rw [zr_238]; rfl)
-- CannonPostModel.canBlow([III)Z at 0
theorem q242_0 (d : Nat) (x0 : Int) (x1 : Int) (h : MH) : Run (d + 1) 242 0 [.inr (.inr (.inl 97)), .inr (.inr (.inl 110)), .inl x0, .inl x1] [] h = (if (h 97 26) ≤ 0 then some (some (.inl 0), h) else (cI (Run d 183 0 [.inr (.inl x0), vU, .inr (.inl 0), vU, .inr (.inl 9), vU] [] h) fun a3_ h2_ => (if a3_ = 0 then some (some (.inl 0), h2_) else (cI (Run d 183 0 [.inr (.inl x1), vU, .inr (.inl 0), vU, .inr (.inl 1), vU] [] h2_) fun a6_ h5_ => (if a6_ = 0 then some (some (.inl 0), h5_) else (if ¬ (h5_ 110 32) = x0 then some (some (.inl 1), h5_) else (if (h5_ 110 33) = x1 then some (some (.inl 0), h5_) else some (some (.inl 1), h5_)))))))) := by
  refine (R_aload_n zf242_0 rfl zlt_97 rfl).trans ?_
  refine (R_getI zf242_1 zo_242 zfl_12_294 zk1_97 zft_12_26 rfl).trans ?_
  refine (R_if_le (t := 49) zf242_4 rfl rfl).trans ?_
  refine ite_congr rfl (fun c1_ => ?_) (fun c1_ => ?_)
  · refine (R_iconst zf242_49 zw_0 rfl).trans ?_
    exact R_ireturn zf242_50 (by rw [zr_242]; rfl)
  · refine (R_iload_n zf242_7 rfl rfl).trans ?_
    refine (R_i2l zf242_8 rfl).trans ?_
    refine (R_lconst (v := 0) zf242_9 rfl rfl).trans ?_
    refine (R_ldc2_w zf242_10 zo_242 zll_12_367 rfl).trans ?_
    refine (R_callI zf242_13 zo_242 zsl_12_217 (by rw [zr_183]; rfl) zl_183 (Nat.le_of_ble_eq_true rfl) rfl rfl (Nat.le_of_ble_eq_true rfl) (Nat.le_of_ble_eq_true rfl) (es := [.inr (.inl x0), vU, .inr (.inl 0), vU, .inr (.inl 9), vU]) rfl rfl).trans ?_
    refine congrArg (cI _) (funext fun a3_ => funext fun h2_ => ?_)
    refine (R_if_eq (t := 49) zf242_16 rfl rfl).trans ?_
    refine ite_congr rfl (fun c4_ => ?_) (fun c4_ => ?_)
    · refine (R_iconst zf242_49 zw_0 rfl).trans ?_
      exact R_ireturn zf242_50 (by rw [zr_242]; rfl)
    · refine (R_iload_n zf242_19 rfl rfl).trans ?_
      refine (R_i2l zf242_20 rfl).trans ?_
      refine (R_lconst (v := 0) zf242_21 rfl rfl).trans ?_
      refine (R_lconst (v := 1) zf242_22 rfl rfl).trans ?_
      refine (R_callI zf242_23 zo_242 zsl_12_217 (by rw [zr_183]; rfl) zl_183 (Nat.le_of_ble_eq_true rfl) rfl rfl (Nat.le_of_ble_eq_true rfl) (Nat.le_of_ble_eq_true rfl) (es := [.inr (.inl x1), vU, .inr (.inl 0), vU, .inr (.inl 1), vU]) rfl rfl).trans ?_
      refine congrArg (cI _) (funext fun a6_ => funext fun h5_ => ?_)
      refine (R_if_eq (t := 49) zf242_26 rfl rfl).trans ?_
      refine ite_congr rfl (fun c7_ => ?_) (fun c7_ => ?_)
      · refine (R_iconst zf242_49 zw_0 rfl).trans ?_
        exact R_ireturn zf242_50 (by rw [zr_242]; rfl)
      · refine (R_aload_n zf242_29 rfl zlt_110 rfl).trans ?_
        refine (R_bipush zf242_30 zb_32 rfl).trans ?_
        refine (R_ialdc zf242_32 zk_110 (by decide) rfl rfl).trans ?_
        refine (R_iload_n zf242_33 rfl rfl).trans ?_
        refine (R_icmp_ne (t := 45) zf242_34 rfl rfl).trans ?_
        refine ite_congr rfl (fun c8_ => ?_) (fun c8_ => ?_)
        · refine (R_iconst zf242_45 zw_1 rfl).trans ?_
          refine (R_goto (t := 50) zf242_46 rfl).trans ?_
          exact R_ireturn zf242_50 (by rw [zr_242]; rfl)
        · refine (R_aload_n zf242_37 rfl zlt_110 rfl).trans ?_
          refine (R_bipush zf242_38 zb_33 rfl).trans ?_
          refine (R_ialdc zf242_40 zk_110 (by decide) rfl rfl).trans ?_
          refine (R_iload_n zf242_41 rfl rfl).trans ?_
          refine (R_icmp_eq (t := 49) zf242_42 rfl rfl).trans ?_
          refine ite_congr rfl (fun c9_ => ?_) (fun c9_ => ?_)
          · refine (R_iconst zf242_49 zw_0 rfl).trans ?_
            exact R_ireturn zf242_50 (by rw [zr_242]; rfl)
          · refine (R_iconst zf242_45 zw_1 rfl).trans ?_
            refine (R_goto (t := 50) zf242_46 rfl).trans ?_
            exact R_ireturn zf242_50 (by rw [zr_242]; rfl)
-- CannonPostModel.blows([III)V at 0
theorem q243_0 (d : Nat) (x0 : Int) (x1 : Int) (h : MH) : Run d 243 0 [.inr (.inr (.inl 110)), .inl x0, .inl x1] [] h = some (none, (up (up h 110 32 x0) 110 33 x1)) := by
  refine (R_aload_n zf243_0 rfl zlt_110 rfl).trans ?_
  refine (R_bipush zf243_1 zb_32 rfl).trans ?_
  refine (R_iload_n zf243_3 rfl rfl).trans ?_
  refine (R_iastc zf243_4 zk_110 (by decide) rfl rfl).trans ?_
  refine (R_aload_n zf243_5 rfl zlt_110 rfl).trans ?_
  refine (R_bipush zf243_6 zb_33 rfl).trans ?_
  refine (R_iload_n zf243_8 rfl rfl).trans ?_
  refine (R_iastc zf243_9 zk_110 (by decide) rfl rfl).trans ?_
  exact R_return zf243_10 zr_243
-- CannonPostModel.mayPass([III)Z at 0
theorem q246_0 (d : Nat) (x0 : Int) (x1 : Int) (h : MH) : Run (d + 1) 246 0 [.inr (.inr (.inl 97)), .inr (.inr (.inl 110)), .inl x0, .inl x1] [] h = (if (h 97 26) ≤ 0 then some (some (.inl 0), h) else (cI (Run d 183 0 [.inr (.inl x0), vU, .inr (.inl 1), vU, .inr (.inl x1), vU] [] h) fun a3_ h2_ => (if a3_ = 0 then some (some (.inl 0), h2_) else (if 9999 < (wI ((h2_ 110 35) + x0)) then some (some (.inl 0), h2_) else some (some (.inl 1), h2_))))) := by
  refine (R_aload_n zf246_0 rfl zlt_97 rfl).trans ?_
  refine (R_getI zf246_1 zo_246 zfl_12_294 zk1_97 zft_12_26 rfl).trans ?_
  refine (R_if_le (t := 34) zf246_4 rfl rfl).trans ?_
  refine ite_congr rfl (fun c1_ => ?_) (fun c1_ => ?_)
  · refine (R_iconst zf246_34 zw_0 rfl).trans ?_
    exact R_ireturn zf246_35 (by rw [zr_246]; rfl)
  · refine (R_iload_n zf246_7 rfl rfl).trans ?_
    refine (R_i2l zf246_8 rfl).trans ?_
    refine (R_lconst (v := 1) zf246_9 rfl rfl).trans ?_
    refine (R_iload_n zf246_10 rfl rfl).trans ?_
    refine (R_i2l zf246_11 rfl).trans ?_
    refine (R_callI zf246_12 zo_246 zsl_12_217 (by rw [zr_183]; rfl) zl_183 (Nat.le_of_ble_eq_true rfl) rfl rfl (Nat.le_of_ble_eq_true rfl) (Nat.le_of_ble_eq_true rfl) (es := [.inr (.inl x0), vU, .inr (.inl 1), vU, .inr (.inl x1), vU]) rfl rfl).trans ?_
    refine congrArg (cI _) (funext fun a3_ => funext fun h2_ => ?_)
    refine (R_if_eq (t := 34) zf246_15 rfl rfl).trans ?_
    refine ite_congr rfl (fun c4_ => ?_) (fun c4_ => ?_)
    · refine (R_iconst zf246_34 zw_0 rfl).trans ?_
      exact R_ireturn zf246_35 (by rw [zr_246]; rfl)
    · refine (R_aload_n zf246_18 rfl zlt_110 rfl).trans ?_
      refine (R_bipush zf246_19 zb_35 rfl).trans ?_
      refine (R_ialdc zf246_21 zk_110 (by decide) rfl rfl).trans ?_
      refine (R_iload_n zf246_22 rfl rfl).trans ?_
      refine (R_iadd zf246_23 rfl).trans ?_
      refine (R_sipush zf246_24 zs_9999 rfl).trans ?_
      refine (R_icmp_gt (t := 34) zf246_27 rfl rfl).trans ?_
      refine ite_congr rfl (fun c5_ => ?_) (fun c5_ => ?_)
      · refine (R_iconst zf246_34 zw_0 rfl).trans ?_
        exact R_ireturn zf246_35 (by rw [zr_246]; rfl)
      · refine (R_iconst zf246_30 zw_1 rfl).trans ?_
        refine (R_goto (t := 35) zf246_31 rfl).trans ?_
        exact R_ireturn zf246_35 (by rw [zr_246]; rfl)
-- CannonPostModel.hours(I)I at 23
theorem q245_23 (d : Nat) (x0 : Int) (x1 : Int) (h : MH) : Run (d + 1) 245 23 [.inr (.inr (.inl 97)), .inl x0, .inl x1] [] h = (if x0 ≤ x1 then some (some (.inl (h 110 35)), h) else (cV (Run d 229 0 [.inr (.inr (.inl 97)), vU] [] h) fun h2_ => (cV (Run d 247 0 [.inr (.inr (.inl 97)), .inr (.inr (.inl 110)), vU] [] h2_) fun h3_ => Run (d + 1) 245 23 [.inr (.inr (.inl 97)), .inl x0, .inl (wI (x1 + 1))] [] h3_))) := by
  refine (R_iload_n zf245_23 rfl rfl).trans ?_
  refine (R_iload_n zf245_24 rfl rfl).trans ?_
  refine (R_icmp_ge (t := 46) zf245_25 rfl rfl).trans ?_
  refine ite_congr rfl (fun c1_ => ?_) (fun c1_ => ?_)
  · refine (R_aload_n zf245_46 rfl zlt_97 rfl).trans ?_
    refine (R_getR zf245_47 zo_245 zfl_12_61 zk1_97 zft_12_32 zmr_97_32 rfl).trans ?_
    refine (R_bipush zf245_50 zb_35 rfl).trans ?_
    refine (R_ialdc zf245_52 zk_110 (by decide) rfl rfl).trans ?_
    exact R_ireturn_i zf245_53 zr_245
  · refine (R_aload_n zf245_28 rfl zlt_97 rfl).trans ?_
    refine (R_vcallV zf245_29 zo_245 zvl_12_378 zr_229 zl_229 (Nat.le_of_ble_eq_true rfl) rfl rfl (Nat.le_of_ble_eq_true rfl) (Nat.le_of_ble_eq_true rfl) (es := [.inr (.inr (.inl 97)), vU]) rfl rfl zk1_97 zo_229).trans ?_
    refine congrArg (cV _) (funext fun h2_ => ?_)
    refine (R_aload_n zf245_32 rfl zlt_97 rfl).trans ?_
    refine (R_aload_n zf245_33 rfl zlt_97 rfl).trans ?_
    refine (R_getR zf245_34 zo_245 zfl_12_61 zk1_97 zft_12_32 zmr_97_32 rfl).trans ?_
    refine (R_vcallV zf245_37 zo_245 zvl_12_402 zr_247 zl_247 (Nat.le_of_ble_eq_true rfl) rfl rfl (Nat.le_of_ble_eq_true rfl) (Nat.le_of_ble_eq_true rfl) (es := [.inr (.inr (.inl 97)), .inr (.inr (.inl 110)), vU]) rfl rfl zk1_97 zo_247).trans ?_
    refine congrArg (cV _) (funext fun h3_ => ?_)
    refine (R_iinc (ls' := [.inr (.inr (.inl 97)), .inl x0, .inl (wI (x1 + 1))]) zf245_40 rfl rfl rfl).trans ?_
    refine (R_goto (t := 23) zf245_43 rfl).trans ?_
    rfl
-- CannonPostModel.decades(IJ)I at 29
theorem q248_29 (d : Nat) (x0 : Int) (x1 : Int) (z2 : MV) (hz2 : cat z2 = 1) (x3 : Int) (z4 : MV) (hz4 : cat z4 = 1) (z5 : MV) (hz5 : cat z5 = 1) (z6 : MV) (hz6 : cat z6 = 1) (z7 : MV) (hz7 : cat z7 = 1) (h : MH) : Run (d + 1) 248 29 [.inr (.inr (.inl 97)), .inl x0, .inr (.inl x1), z2, .inl x3, z4, z5, z6, z7] [] h = (if x0 ≤ x3 then some (some (.inl (h 110 35)), h) else (cV (Run d 229 0 [.inr (.inr (.inl 97)), vU] [] h) fun h2_ => (cI (Run d 249 0 [.inr (.inr (.inl 97)), .inl 10] [] h2_) fun a4_ h3_ => (if (h3_ 97 35) ≤ a4_ then Run (d + 1) 248 65 [.inr (.inr (.inl 97)), .inl x0, .inr (.inl x1), z2, .inl x3, z4, z5, z6, z7] [] h3_ else (cI (Run d 249 0 [.inr (.inr (.inl 97)), .inl 10] [] h3_) fun a7_ h6_ => Run (d + 1) 248 65 [.inr (.inr (.inl 97)), .inl x0, .inr (.inl x1), z2, .inl x3, z4, z5, z6, z7] [] (up h6_ 110 34 a7_)))))) := by
  refine (R_iload zf248_29 rfl rfl).trans ?_
  refine (R_iload_n zf248_31 rfl rfl).trans ?_
  refine (R_icmp_ge (t := 153) zf248_32 rfl rfl).trans ?_
  refine ite_congr rfl (fun c1_ => ?_) (fun c1_ => ?_)
  · refine (R_aload_n zf248_153 rfl zlt_97 rfl).trans ?_
    refine (R_getR zf248_154 zo_248 zfl_12_61 zk1_97 zft_12_32 zmr_97_32 rfl).trans ?_
    refine (R_bipush zf248_157 zb_35 rfl).trans ?_
    refine (R_ialdc zf248_159 zk_110 (by decide) rfl rfl).trans ?_
    exact R_ireturn_i zf248_160 zr_248
  · refine (R_aload_n zf248_35 rfl zlt_97 rfl).trans ?_
    refine (R_vcallV zf248_36 zo_248 zvl_12_378 zr_229 zl_229 (Nat.le_of_ble_eq_true rfl) rfl rfl (Nat.le_of_ble_eq_true rfl) (Nat.le_of_ble_eq_true rfl) (es := [.inr (.inr (.inl 97)), vU]) rfl rfl zk1_97 zo_229).trans ?_
    refine congrArg (cV _) (funext fun h2_ => ?_)
    refine (R_aload_n zf248_39 rfl zlt_97 rfl).trans ?_
    refine (R_bipush zf248_40 zb_10 rfl).trans ?_
    refine (R_vcallI zf248_42 zo_248 zvl_12_414 (by rw [zr_249]; rfl) zl_249 (Nat.le_of_ble_eq_true rfl) rfl rfl (Nat.le_of_ble_eq_true rfl) (Nat.le_of_ble_eq_true rfl) (es := [.inr (.inr (.inl 97)), .inl 10]) rfl rfl zk1_97 zo_249).trans ?_
    refine congrArg (cI _) (funext fun a4_ => funext fun h3_ => ?_)
    refine (R_aload_n zf248_45 rfl zlt_97 rfl).trans ?_
    refine (R_getI zf248_46 zo_248 zfl_12_369 zk1_97 zft_12_35 rfl).trans ?_
    refine (R_icmp_ge (t := 65) zf248_49 rfl rfl).trans ?_
    refine ite_congr rfl (fun c5_ => ?_) (fun c5_ => ?_)
    · rfl
    · refine (R_aload_n zf248_52 rfl zlt_97 rfl).trans ?_
      refine (R_getR zf248_53 zo_248 zfl_12_61 zk1_97 zft_12_32 zmr_97_32 rfl).trans ?_
      refine (R_bipush zf248_56 zb_34 rfl).trans ?_
      refine (R_aload_n zf248_58 rfl zlt_97 rfl).trans ?_
      refine (R_bipush zf248_59 zb_10 rfl).trans ?_
      refine (R_vcallI zf248_61 zo_248 zvl_12_414 (by rw [zr_249]; rfl) zl_249 (Nat.le_of_ble_eq_true rfl) rfl rfl (Nat.le_of_ble_eq_true rfl) (Nat.le_of_ble_eq_true rfl) (es := [.inr (.inr (.inl 97)), .inl 10]) rfl rfl zk1_97 zo_249).trans ?_
      refine congrArg (cI _) (funext fun a7_ => funext fun h6_ => ?_)
      refine (R_iastc zf248_64 zk_110 (by decide) rfl rfl).trans ?_
      rfl
-- CannonPostModel.undo()I at 26
theorem q251_26 (d : Nat) (x0 : Int) (h : MH) : Run d 251 26 [.inr (.inr (.inl 97)), .inl x0] [] h = (if 277 ≤ x0 then some (some (.inl (h 97 37)), h) else (if 0 ≤ (wI ((wI (277 * (h 97 37))) + x0)) ∧ (wI ((wI (277 * (h 97 37))) + x0)) < 11080 then (if 0 ≤ x0 ∧ x0 < 277 then Run d 251 26 [.inr (.inr (.inl 97)), .inl (wI (x0 + 1))] [] (up h 110 x0.toNat (h 112 (wI ((wI (277 * (h 97 37))) + x0)).toNat)) else none) else none)) := by
  refine (R_iload_n zf251_26 rfl rfl).trans ?_
  refine (R_sipush zf251_27 zs_277 rfl).trans ?_
  refine (R_icmp_ge (t := 60) zf251_30 rfl rfl).trans ?_
  refine ite_congr rfl (fun c1_ => ?_) (fun c1_ => ?_)
  · refine (R_aload_n zf251_60 rfl zlt_97 rfl).trans ?_
    refine (R_getI zf251_61 zo_251 zfl_12_309 zk1_97 zft_12_37 rfl).trans ?_
    exact R_ireturn_i zf251_64 zr_251
  · refine (R_aload_n zf251_33 rfl zlt_97 rfl).trans ?_
    refine (R_getR zf251_34 zo_251 zfl_12_61 zk1_97 zft_12_32 zmr_97_32 rfl).trans ?_
    refine (R_iload_n zf251_37 rfl rfl).trans ?_
    refine (R_aload_n zf251_38 rfl zlt_97 rfl).trans ?_
    refine (R_getR zf251_39 zo_251 zfl_12_71 zk1_97 zft_12_36 zmr_97_36 rfl).trans ?_
    refine (R_sipush zf251_42 zs_277 rfl).trans ?_
    refine (R_aload_n zf251_45 rfl zlt_97 rfl).trans ?_
    refine (R_getI zf251_46 zo_251 zfl_12_309 zk1_97 zft_12_37 rfl).trans ?_
    refine (R_imul zf251_49 rfl).trans ?_
    refine (R_iload_n zf251_50 rfl rfl).trans ?_
    refine (R_iadd zf251_51 rfl).trans ?_
    refine (R_iald zf251_52 zk_112 rfl).trans ?_
    refine ite_congr rfl (fun c2_ => ?_) (fun _ => rfl)
    refine (R_iast zf251_53 zk_110 rfl).trans ?_
    refine ite_congr rfl (fun c3_ => ?_) (fun _ => rfl)
    refine (R_iinc (ls' := [.inr (.inr (.inl 97)), .inl (wI (x0 + 1))]) zf251_54 rfl rfl rfl).trans ?_
    refine (R_goto (t := 26) zf251_57 rfl).trans ?_
    rfl
-- CannonPostModel.isPlan(I)Z at 0
theorem q254_0 (d : Nat) (x0 : Int) (h : MH) : Run d 254 0 [.inr (.inr (.inl 97)), .inl x0] [] h = (if x0 < 0 then some (some (.inl 0), h) else (if (h 97 30) ≤ x0 then some (some (.inl 0), h) else some (some (.inl 1), h))) := by
  refine (R_iload_n zf254_0 rfl rfl).trans ?_
  refine (R_if_lt (t := 16) zf254_1 rfl rfl).trans ?_
  refine ite_congr rfl (fun c1_ => ?_) (fun c1_ => ?_)
  · refine (R_iconst zf254_16 zw_0 rfl).trans ?_
    exact R_ireturn zf254_17 (by rw [zr_254]; rfl)
  · refine (R_iload_n zf254_4 rfl rfl).trans ?_
    refine (R_aload_n zf254_5 rfl zlt_97 rfl).trans ?_
    refine (R_getI zf254_6 zo_254 zfl_12_289 zk1_97 zft_12_30 rfl).trans ?_
    refine (R_icmp_ge (t := 16) zf254_9 rfl rfl).trans ?_
    refine ite_congr rfl (fun c2_ => ?_) (fun c2_ => ?_)
    · refine (R_iconst zf254_16 zw_0 rfl).trans ?_
      exact R_ireturn zf254_17 (by rw [zr_254]; rfl)
    · refine (R_iconst zf254_12 zw_1 rfl).trans ?_
      refine (R_goto (t := 17) zf254_13 rfl).trans ?_
      exact R_ireturn zf254_17 (by rw [zr_254]; rfl)
