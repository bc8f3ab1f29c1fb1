/-! the methods as equations of Run: CannonPost.drawAheadOfHour=102, CannonPost.follow=117, CannonPost.gained=166, CannonPost.hays=169, CannonPost.partsRight=136, CannonPost.rests=167, CannonPost.text=44, CannonPostModel.aimOf=265, CannonPostModel.ask=280, CannonPostModel.best=297, CannonPostModel.bytesIn=179, CannonPostModel.canStep=257, CannonPostModel.comesTo=231, CannonPostModel.copy=256, CannonPostModel.count=306, CannonPostModel.cuts=284, CannonPostModel.decades=248, CannonPostModel.draw=249, CannonPostModel.following=293, CannonPostModel.free=299, CannonPostModel.gameOf=287, CannonPostModel.goHour=247, CannonPostModel.goRoute=268, CannonPostModel.goThrough=199, CannonPostModel.gusts=302, CannonPostModel.has=192, CannonPostModel.hays=295, CannonPostModel.home=300, CannonPostModel.isFree=228, CannonPostModel.isGame=286, CannonPostModel.isShot=262, CannonPostModel.knowers=274, CannonPostModel.landsAt=235, CannonPostModel.layAims=264, CannonPostModel.layAllAims=273, CannonPostModel.layRoute=267, CannonPostModel.meantFor=291, CannonPostModel.nearest=298, CannonPostModel.nearestTo=236, CannonPostModel.netOf=282, CannonPostModel.perform=260, CannonPostModel.place=234, CannonPostModel.placeBy=232, CannonPostModel.put=180, CannonPostModel.readLeague=184, CannonPostModel.readPlan=213, CannonPostModel.relay=272, CannonPostModel.remember=229, CannonPostModel.rests=288, CannonPostModel.run=255, CannonPostModel.shoots=230, CannonPostModel.starts=185, CannonPostModel.sureOf=270, CannonPostModel.surest=271, CannonPostModel.text=216, CannonPostModel.told=223, CannonPostModel.winds=278, Flight.along=80, Flight.comeTo=86, Flight.forget=55, Flight.reach=81, Flight.reckon=126, Guesses.forget=54, Guesses.hasFaceOf=163, Guesses.partsFor=160, Guesses.tellingShot=154, Guesses.weighWinds=150, LawReader.readTape=22, Lawbook.add=57, Lawbook.hasRoom=56, League.copyFrom=46, League.fortNear=87, League.highestFort=171, League.nearestFort=172, LeagueReader.readClauses=6, Paths.bestRelay=132, Paths.link=139, Paths.netFrom=140, Paths.trace=128, Planbook.readTape=38, State.begin=47, State.fortsKnowing=131, State.land=88, State.noteShot=89, State.passHour=100, State.sumOf=68, Tape.bytesIn=1, Tape.put=2, java/util/Arrays.fill=48 -/
-- CannonPostModel.copy([I[I)V at 0
theorem q256_0 (d : Nat) (h : MH) : Run d 256 0 [.inr (.inr (.inl 110)), .inr (.inr (.inl 111)), vU, vU] [] h = Run d 256 12 [.inr (.inr (.inl 110)), .inr (.inr (.inl 111)), .inl (wI (37 + (wI (4 * (h 110 36))))), .inl 0] [] h := by
  refine (R_bipush zf256_0 zb_37 rfl).trans ?_
  refine (R_iconst zf256_2 zw_4 rfl).trans ?_
  refine (R_aload_n zf256_3 rfl zlt_110 rfl).trans ?_
  refine (R_bipush zf256_4 zb_36 rfl).trans ?_
  refine (R_ialdc zf256_6 zk_110 (by decide) rfl rfl).trans ?_
  refine (R_imul zf256_7 rfl).trans ?_
  refine (R_iadd zf256_8 rfl).trans ?_
  refine (R_istore_n (ls' := [.inr (.inr (.inl 110)), .inr (.inr (.inl 111)), .inl (wI (37 + (wI (4 * (h 110 36))))), vU]) zf256_9 (Nat.le_of_ble_eq_true rfl) rfl rfl).trans ?_
  refine (R_iconst zf256_10 zw_0 rfl).trans ?_
  refine (R_istore_n (ls' := [.inr (.inr (.inl 110)), .inr (.inr (.inl 111)), .inl (wI (37 + (wI (4 * (h 110 36))))), .inl 0]) zf256_11 (Nat.le_of_ble_eq_true rfl) rfl rfl).trans ?_
  rfl
-- CannonPostModel.run(II)I at 47
theorem q255_47 (d : Nat) (x0 : Int) (x1 : Int) (x2 : Int) (z3 : MV) (hz3 : cat z3 = 1) (z4 : MV) (hz4 : cat z4 = 1) (h : MH) : Run (d + 1) 255 47 [.inr (.inr (.inl 97)), .inl x0, .inl x1, .inl x2, z3, z4] [] h = (if 0 ≤ x0 ∧ x0 < 5 then (if (h 109 x0.toNat) ≤ x2 then Run (d + 1) 255 122 [.inr (.inr (.inl 97)), .inl x0, .inl x1, .inl x2, z3, z4] [] h else (cI (Run d 257 0 [.inr (.inr (.inl 97)), .inr (.inr (.inl 111)), .inl (wI (4 * (wI ((wI (16 * x0)) + x2)))), vU, vU] [] h) fun a4_ h3_ => (if a4_ = 0 then Run (d + 1) 255 122 [.inr (.inr (.inl 97)), .inl x0, .inl x1, .inl x2, z3, z4] [] h3_ else Run (d + 1) 255 89 [.inr (.inr (.inl 97)), .inl x0, .inl x1, .inl x2, .inl (wI (4 * (wI ((wI (16 * x0)) + x2)))), .inl 0] [] h3_))) else none) := by
  refine (R_iload_n zf255_47 rfl rfl).trans ?_
  refine (R_aload_n zf255_48 rfl zlt_97 rfl).trans ?_
  refine (R_getR zf255_49 zo_255 zfl_12_58 zk1_97 zft_12_25 zmr_97_25 rfl).trans ?_
  refine (R_iload_n zf255_52 rfl rfl).trans ?_
  refine (R_iald zf255_53 zk_109 rfl).trans ?_
  refine ite_congr rfl (fun c1_ => ?_) (fun _ => rfl)
  refine (R_icmp_ge (t := 122) zf255_54 rfl rfl).trans ?_
  refine ite_congr rfl (fun c2_ => ?_) (fun c2_ => ?_)
  · rfl
  · refine (R_aload_n zf255_57 rfl zlt_97 rfl).trans ?_
    refine (R_aload_n zf255_58 rfl zlt_97 rfl).trans ?_
    refine (R_getR zf255_59 zo_255 zfl_12_64 zk1_97 zft_12_33 zmr_97_33 rfl).trans ?_
    refine (R_iconst zf255_62 zw_4 rfl).trans ?_
    refine (R_bipush zf255_63 zb_16 rfl).trans ?_
    refine (R_iload_n zf255_65 rfl rfl).trans ?_
    refine (R_imul zf255_66 rfl).trans ?_
    refine (R_iload_n zf255_67 rfl rfl).trans ?_
    refine (R_iadd zf255_68 rfl).trans ?_
    refine (R_imul zf255_69 rfl).trans ?_
    refine (R_vcallI zf255_70 zo_255 zvl_12_429 (by rw [zr_257]; rfl) zl_257 (Nat.le_of_ble_eq_true rfl) rfl rfl (Nat.le_of_ble_eq_true rfl) (Nat.le_of_ble_eq_true rfl) (es := [.inr (.inr (.inl 97)), .inr (.inr (.inl 111)), .inl (wI (4 * (wI ((wI (16 * x0)) + x2)))), vU, vU]) rfl rfl zk1_97 zo_257).trans ?_
    refine congrArg (cI _) (funext fun a4_ => funext fun h3_ => ?_)
    refine (R_if_eq (t := 122) zf255_73 rfl rfl).trans ?_
    refine ite_congr rfl (fun c5_ => ?_) (fun c5_ => ?_)
    · rfl
    · refine (R_iconst zf255_76 zw_4 rfl).trans ?_
      refine (R_bipush zf255_77 zb_16 rfl).trans ?_
      refine (R_iload_n zf255_79 rfl rfl).trans ?_
      refine (R_imul zf255_80 rfl).trans ?_
      refine (R_iload_n zf255_81 rfl rfl).trans ?_
      refine (R_iadd zf255_82 rfl).trans ?_
      refine (R_imul zf255_83 rfl).trans ?_
      refine (R_istore (ls' := [.inr (.inr (.inl 97)), .inl x0, .inl x1, .inl x2, .inl (wI (4 * (wI ((wI (16 * x0)) + x2)))), z4]) zf255_84 (Nat.le_of_ble_eq_true rfl) rfl rfl).trans ?_
      refine (R_iconst zf255_86 zw_0 rfl).trans ?_
      refine (R_istore (ls' := [.inr (.inr (.inl 97)), .inl x0, .inl x1, .inl x2, .inl (wI (4 * (wI ((wI (16 * x0)) + x2)))), .inl 0]) zf255_87 (Nat.le_of_ble_eq_true rfl) rfl rfl).trans ?_
      rfl
-- CannonPostModel.perform(I)I at 24
theorem q260_24 (d : Nat) (x0 : Int) (x1 : Int) (z2 : MV) (hz2 : cat z2 = 1) (z3 : MV) (hz3 : cat z3 = 1) (h : MH) : Run (d + 1) 260 24 [.inr (.inr (.inl 97)), .inl x0, .inl x1, z2, z3] [] h = (if 0 ≤ x0 ∧ x0 < 5 then (if (h 109 x0.toNat) ≤ x1 then some (some (.inl x1), h) else (cI (Run d 257 0 [.inr (.inr (.inl 97)), .inr (.inr (.inl 110)), .inl (wI (4 * (wI ((wI (16 * x0)) + x1)))), vU, vU] [] h) fun a4_ h3_ => (if a4_ = 0 then some (some (.inl x1), h3_) else Run (d + 1) 260 65 [.inr (.inr (.inl 97)), .inl x0, .inl x1, .inl (wI (4 * (wI ((wI (16 * x0)) + x1)))), .inl 0] [] h3_))) else none) := by
  refine (R_iload_n zf260_24 rfl rfl).trans ?_
  refine (R_aload_n zf260_25 rfl zlt_97 rfl).trans ?_
  refine (R_getR zf260_26 zo_260 zfl_12_58 zk1_97 zft_12_25 zmr_97_25 rfl).trans ?_
  refine (R_iload_n zf260_29 rfl rfl).trans ?_
  refine (R_iald zf260_30 zk_109 rfl).trans ?_
  refine ite_congr rfl (fun c1_ => ?_) (fun _ => rfl)
  refine (R_icmp_ge (t := 100) zf260_31 rfl rfl).trans ?_
  refine ite_congr rfl (fun c2_ => ?_) (fun c2_ => ?_)
  · refine (R_iload_n zf260_100 rfl rfl).trans ?_
    exact R_ireturn_i zf260_101 zr_260
  · refine (R_aload_n zf260_34 rfl zlt_97 rfl).trans ?_
    refine (R_aload_n zf260_35 rfl zlt_97 rfl).trans ?_
    refine (R_getR zf260_36 zo_260 zfl_12_61 zk1_97 zft_12_32 zmr_97_32 rfl).trans ?_
    refine (R_iconst zf260_39 zw_4 rfl).trans ?_
    refine (R_bipush zf260_40 zb_16 rfl).trans ?_
    refine (R_iload_n zf260_42 rfl rfl).trans ?_
    refine (R_imul zf260_43 rfl).trans ?_
    refine (R_iload_n zf260_44 rfl rfl).trans ?_
    refine (R_iadd zf260_45 rfl).trans ?_
    refine (R_imul zf260_46 rfl).trans ?_
    refine (R_vcallI zf260_47 zo_260 zvl_12_429 (by rw [zr_257]; rfl) zl_257 (Nat.le_of_ble_eq_true rfl) rfl rfl (Nat.le_of_ble_eq_true rfl) (Nat.le_of_ble_eq_true rfl) (es := [.inr (.inr (.inl 97)), .inr (.inr (.inl 110)), .inl (wI (4 * (wI ((wI (16 * x0)) + x1)))), vU, vU]) rfl rfl zk1_97 zo_257).trans ?_
    refine congrArg (cI _) (funext fun a4_ => funext fun h3_ => ?_)
    refine (R_if_eq (t := 100) zf260_50 rfl rfl).trans ?_
    refine ite_congr rfl (fun c5_ => ?_) (fun c5_ => ?_)
    · refine (R_iload_n zf260_100 rfl rfl).trans ?_
      exact R_ireturn_i zf260_101 zr_260
    · refine (R_iconst zf260_53 zw_4 rfl).trans ?_
      refine (R_bipush zf260_54 zb_16 rfl).trans ?_
      refine (R_iload_n zf260_56 rfl rfl).trans ?_
      refine (R_imul zf260_57 rfl).trans ?_
      refine (R_iload_n zf260_58 rfl rfl).trans ?_
      refine (R_iadd zf260_59 rfl).trans ?_
      refine (R_imul zf260_60 rfl).trans ?_
      refine (R_istore_n (ls' := [.inr (.inr (.inl 97)), .inl x0, .inl x1, .inl (wI (4 * (wI ((wI (16 * x0)) + x1)))), z3]) zf260_61 (Nat.le_of_ble_eq_true rfl) rfl rfl).trans ?_
      refine (R_iconst zf260_62 zw_0 rfl).trans ?_
      refine (R_istore (ls' := [.inr (.inr (.inl 97)), .inl x0, .inl x1, .inl (wI (4 * (wI ((wI (16 * x0)) + x1)))), .inl 0]) zf260_63 (Nat.le_of_ble_eq_true rfl) rfl rfl).trans ?_
      rfl
-- CannonPostModel.isShot(IIII)Z at 0
theorem q262_0 (d : Nat) (x0 : Int) (x1 : Int) (x2 : Int) (x3 : Int) (h : MH) : Run (d + 1) 262 0 [.inr (.inr (.inl 97)), .inl x0, .inl x1, .inl x2, .inl x3] [] h = (cI (Run d 222 0 [.inr (.inr (.inl 97)), .inl x0] [] h) fun a2_ h1_ => (if a2_ = 0 then some (some (.inl 0), h1_) else (cI (Run d 220 0 [.inr (.inr (.inl 97)), .inl x1] [] h1_) fun a5_ h4_ => (if a5_ = 0 then some (some (.inl 0), h4_) else (cI (Run d 183 0 [.inr (.inl x2), vU, .inr (.inl 1), vU, .inr (.inl 20), vU] [] h4_) fun a8_ h7_ => (if a8_ = 0 then some (some (.inl 0), h7_) else (cI (Run d 183 0 [.inr (.inl x3), vU, .inr (.inl 0), vU, .inr (.inl 1), vU] [] h7_) fun a11_ h10_ => (if a11_ = 0 then some (some (.inl 0), h10_) else some (some (.inl 1), h10_))))))))) := by
  refine (R_aload_n zf262_0 rfl zlt_97 rfl).trans ?_
  refine (R_iload_n zf262_1 rfl rfl).trans ?_
  refine (R_vcallI zf262_2 zo_262 zvl_12_339 (by rw [zr_222]; rfl) zl_222 (Nat.le_of_ble_eq_true rfl) rfl rfl (Nat.le_of_ble_eq_true rfl) (Nat.le_of_ble_eq_true rfl) (es := [.inr (.inr (.inl 97)), .inl x0]) rfl rfl zk1_97 zo_222).trans ?_
  refine congrArg (cI _) (funext fun a2_ => funext fun h1_ => ?_)
  refine (R_if_eq (t := 43) zf262_5 rfl rfl).trans ?_
  refine ite_congr rfl (fun c3_ => ?_) (fun c3_ => ?_)
  · refine (R_iconst zf262_43 zw_0 rfl).trans ?_
    exact R_ireturn zf262_44 (by rw [zr_262]; rfl)
  · refine (R_aload_n zf262_8 rfl zlt_97 rfl).trans ?_
    refine (R_iload_n zf262_9 rfl rfl).trans ?_
    refine (R_vcallI zf262_10 zo_262 zvl_12_362 (by rw [zr_220]; rfl) zl_220 (Nat.le_of_ble_eq_true rfl) rfl rfl (Nat.le_of_ble_eq_true rfl) (Nat.le_of_ble_eq_true rfl) (es := [.inr (.inr (.inl 97)), .inl x1]) rfl rfl zk1_97 zo_220).trans ?_
    refine congrArg (cI _) (funext fun a5_ => funext fun h4_ => ?_)
    refine (R_if_eq (t := 43) zf262_13 rfl rfl).trans ?_
    refine ite_congr rfl (fun c6_ => ?_) (fun c6_ => ?_)
    · refine (R_iconst zf262_43 zw_0 rfl).trans ?_
      exact R_ireturn zf262_44 (by rw [zr_262]; rfl)
    · refine (R_iload_n zf262_16 rfl rfl).trans ?_
      refine (R_i2l zf262_17 rfl).trans ?_
      refine (R_lconst (v := 1) zf262_18 rfl rfl).trans ?_
      refine (R_ldc2_w zf262_19 zo_262 zll_12_346 rfl).trans ?_
      refine (R_callI zf262_22 zo_262 zsl_12_217 (by rw [zr_183]; rfl) zl_183 (Nat.le_of_ble_eq_true rfl) rfl rfl (Nat.le_of_ble_eq_true rfl) (Nat.le_of_ble_eq_true rfl) (es := [.inr (.inl x2), vU, .inr (.inl 1), vU, .inr (.inl 20), vU]) rfl rfl).trans ?_
      refine congrArg (cI _) (funext fun a8_ => funext fun h7_ => ?_)
      refine (R_if_eq (t := 43) zf262_25 rfl rfl).trans ?_
      refine ite_congr rfl (fun c9_ => ?_) (fun c9_ => ?_)
      · refine (R_iconst zf262_43 zw_0 rfl).trans ?_
        exact R_ireturn zf262_44 (by rw [zr_262]; rfl)
      · refine (R_iload zf262_28 rfl rfl).trans ?_
        refine (R_i2l zf262_30 rfl).trans ?_
        refine (R_lconst (v := 0) zf262_31 rfl rfl).trans ?_
        refine (R_lconst (v := 1) zf262_32 rfl rfl).trans ?_
        refine (R_callI zf262_33 zo_262 zsl_12_217 (by rw [zr_183]; rfl) zl_183 (Nat.le_of_ble_eq_true rfl) rfl rfl (Nat.le_of_ble_eq_true rfl) (Nat.le_of_ble_eq_true rfl) (es := [.inr (.inl x3), vU, .inr (.inl 0), vU, .inr (.inl 1), vU]) rfl rfl).trans ?_
        refine congrArg (cI _) (funext fun a11_ => funext fun h10_ => ?_)
        refine (R_if_eq (t := 43) zf262_36 rfl rfl).trans ?_
        refine ite_congr rfl (fun c12_ => ?_) (fun c12_ => ?_)
        · refine (R_iconst zf262_43 zw_0 rfl).trans ?_
          exact R_ireturn zf262_44 (by rw [zr_262]; rfl)
        · refine (R_iconst zf262_39 zw_1 rfl).trans ?_
          refine (R_goto (t := 44) zf262_40 rfl).trans ?_
          exact R_ireturn zf262_44 (by rw [zr_262]; rfl)
-- CannonPostModel.comesTo([IIIII)I at 0
theorem q231_0 (d : Nat) (x0 : Int) (x1 : Int) (x2 : Int) (x3 : Int) (h : MH) : Run (d + 1) 231 0 [.inr (.inr (.inl 97)), .inr (.inr (.inl 110)), .inl x0, .inl x1, .inl x2, .inl x3] [] h = (cI (Run d 232 0 [.inr (.inr (.inl 97)), .inl x0, .inl x1, .inl x2, .inl x3, .inl (h 110 32), .inl (h 110 33), .inl (h 110 34), vU] [] h) fun a2_ h1_ => some (some (.inl a2_), h1_)) := by
  refine (R_aload_n zf231_0 rfl zlt_97 rfl).trans ?_
  refine (R_iload_n zf231_1 rfl rfl).trans ?_
  refine (R_iload_n zf231_2 rfl rfl).trans ?_
  refine (R_iload zf231_3 rfl rfl).trans ?_
  refine (R_iload zf231_5 rfl rfl).trans ?_
  refine (R_aload_n zf231_7 rfl zlt_110 rfl).trans ?_
  refine (R_bipush zf231_8 zb_32 rfl).trans ?_
  refine (R_ialdc zf231_10 zk_110 (by decide) rfl rfl).trans ?_
  refine (R_aload_n zf231_11 rfl zlt_110 rfl).trans ?_
  refine (R_bipush zf231_12 zb_33 rfl).trans ?_
  refine (R_ialdc zf231_14 zk_110 (by decide) rfl rfl).trans ?_
  refine (R_aload_n zf231_15 rfl zlt_110 rfl).trans ?_
  refine (R_bipush zf231_16 zb_34 rfl).trans ?_
  refine (R_ialdc zf231_18 zk_110 (by decide) rfl rfl).trans ?_
  refine (R_vcallI zf231_19 zo_231 zvl_12_329 (by rw [zr_232]; rfl) zl_232 (Nat.le_of_ble_eq_true rfl) rfl rfl (Nat.le_of_ble_eq_true rfl) (Nat.le_of_ble_eq_true rfl) (es := [.inr (.inr (.inl 97)), .inl x0, .inl x1, .inl x2, .inl x3, .inl (h 110 32), .inl (h 110 33), .inl (h 110 34), vU]) rfl rfl zk1_97 zo_232).trans ?_
  refine congrArg (cI _) (funext fun a2_ => funext fun h1_ => ?_)
  exact R_ireturn_i zf231_22 zr_231
-- CannonPostModel.landsAt(I)I at 0
theorem q235_0 (d : Nat) (x0 : Int) (h : MH) : Run (d + 1) 235 0 [.inr (.inr (.inl 97)), .inl x0, vU] [] h = (cI (Run d 236 0 [.inr (.inr (.inl 97)), .inl x0, vU, vU] [] h) fun a2_ h1_ => (cI (Run d 234 0 [.inr (.inr (.inl 97)), .inl a2_] [] h1_) fun a4_ h3_ => (if 1 < (ab (wI (a4_ - x0))) then some (some (.inl (-1)), h3_) else some (some (.inl a2_), h3_)))) := by
  refine (R_aload_n zf235_0 rfl zlt_97 rfl).trans ?_
  refine (R_iload_n zf235_1 rfl rfl).trans ?_
  refine (R_vcallI zf235_2 zo_235 zvl_12_336 (by rw [zr_236]; rfl) zl_236 (Nat.le_of_ble_eq_true rfl) rfl rfl (Nat.le_of_ble_eq_true rfl) (Nat.le_of_ble_eq_true rfl) (es := [.inr (.inr (.inl 97)), .inl x0, vU, vU]) rfl rfl zk1_97 zo_236).trans ?_
  refine congrArg (cI _) (funext fun a2_ => funext fun h1_ => ?_)
  refine (R_istore_n (ls' := [.inr (.inr (.inl 97)), .inl x0, .inl a2_]) zf235_5 (Nat.le_of_ble_eq_true rfl) rfl rfl).trans ?_
  refine (R_aload_n zf235_6 rfl zlt_97 rfl).trans ?_
  refine (R_iload_n zf235_7 rfl rfl).trans ?_
  refine (R_vcallI zf235_8 zo_235 zvl_12_326 (by rw [zr_234]; rfl) zl_234 (Nat.le_of_ble_eq_true rfl) rfl rfl (Nat.le_of_ble_eq_true rfl) (Nat.le_of_ble_eq_true rfl) (es := [.inr (.inr (.inl 97)), .inl a2_]) rfl rfl zk1_97 zo_234).trans ?_
  refine congrArg (cI _) (funext fun a4_ => funext fun h3_ => ?_)
  refine (R_iload_n zf235_11 rfl rfl).trans ?_
  refine (R_isub zf235_12 rfl).trans ?_
  refine (R_mabs zf235_13 zo_235 zsl_12_333 zml_12_333 zna_12_333 (Nat.le_of_ble_eq_true rfl) rfl).trans ?_
  refine (R_iconst zf235_16 zw_1 rfl).trans ?_
  refine (R_icmp_gt (t := 24) zf235_17 rfl rfl).trans ?_
  refine ite_congr rfl (fun c5_ => ?_) (fun c5_ => ?_)
  · refine (R_iconst zf235_24 zw_m1 rfl).trans ?_
    exact R_ireturn_i zf235_25 zr_235
  · refine (R_iload_n zf235_20 rfl rfl).trans ?_
    refine (R_goto (t := 25) zf235_21 rfl).trans ?_
    exact R_ireturn_i zf235_25 zr_235
-- CannonPostModel.layAims(I)V at 0
theorem q264_0 (d : Nat) (x0 : Int) (h : MH) : Run (d + 1) 264 0 [.inr (.inr (.inl 97)), .inl x0, vU, vU, vU, vU] [] h = Run (d + 1) 264 2 [.inr (.inr (.inl 97)), .inl x0, .inl 0, vU, vU, vU] [] h := by
  refine (R_iconst zf264_0 zw_0 rfl).trans ?_
  refine (R_istore_n (ls' := [.inr (.inr (.inl 97)), .inl x0, .inl 0, vU, vU, vU]) zf264_1 (Nat.le_of_ble_eq_true rfl) rfl rfl).trans ?_
  rfl
-- CannonPostModel.aimOf(III)I at 0
theorem q265_0 (d : Nat) (x0 : Int) (x1 : Int) (x2 : Int) (h : MH) : Run d 265 0 [.inr (.inr (.inl 97)), .inl x0, .inl x1, .inl x2] [] h = (if 0 ≤ (wI ((wI (8 * (wI ((wI (8 * x0)) + x1)))) + x2)) ∧ (wI ((wI (8 * (wI ((wI (8 * x0)) + x1)))) + x2)) < 320 then some (some (.inl (h 113 (wI ((wI (8 * (wI ((wI (8 * x0)) + x1)))) + x2)).toNat)), h) else none) := by
  refine (R_aload_n zf265_0 rfl zlt_97 rfl).trans ?_
  refine (R_getR zf265_1 zo_265 zfl_12_74 zk1_97 zft_12_39 zmr_97_39 rfl).trans ?_
  refine (R_bipush zf265_4 zb_8 rfl).trans ?_
  refine (R_bipush zf265_6 zb_8 rfl).trans ?_
  refine (R_iload_n zf265_8 rfl rfl).trans ?_
  refine (R_imul zf265_9 rfl).trans ?_
  refine (R_iload_n zf265_10 rfl rfl).trans ?_
  refine (R_iadd zf265_11 rfl).trans ?_
  refine (R_imul zf265_12 rfl).trans ?_
  refine (R_iload_n zf265_13 rfl rfl).trans ?_
  refine (R_iadd zf265_14 rfl).trans ?_
  refine (R_iald zf265_15 zk_113 rfl).trans ?_
  refine ite_congr rfl (fun c1_ => ?_) (fun _ => rfl)
  exact R_ireturn_i zf265_16 zr_265
-- CannonPostModel.layRoute(III)Z at 0
theorem q267_0 (d : Nat) (x0 : Int) (x1 : Int) (x2 : Int) (h : MH) : Run (d + 1) 267 0 [.inr (.inr (.inl 97)), .inl x0, .inl x1, .inl x2] [] h = (cV (Run d 264 0 [.inr (.inr (.inl 97)), .inl x0, vU, vU, vU, vU] [] h) fun h1_ => (cV (Run d 268 0 [.inr (.inr (.inl 97)), .inl x0, .inl x1, .inl x2, .inl (iShl 1 x1), .inl 0, .inl 0, .inl 0, vU] [] (up (up (up h1_ 97 40 (-1)) 97 41 0) 97 42 0)) fun h2_ => (if (h2_ 97 40) = (-1) then some (some (.inl 0), h2_) else some (some (.inl 1), h2_)))) := by
  refine (R_aload_n zf267_0 rfl zlt_97 rfl).trans ?_
  refine (R_iload_n zf267_1 rfl rfl).trans ?_
  refine (R_vcallV zf267_2 zo_267 zvl_12_443 zr_264 zl_264 (Nat.le_of_ble_eq_true rfl) rfl rfl (Nat.le_of_ble_eq_true rfl) (Nat.le_of_ble_eq_true rfl) (es := [.inr (.inr (.inl 97)), .inl x0, vU, vU, vU, vU]) rfl rfl zk1_97 zo_264).trans ?_
  refine congrArg (cV _) (funext fun h1_ => ?_)
  refine (R_aload_n zf267_5 rfl zlt_97 rfl).trans ?_
  refine (R_iconst zf267_6 zw_m1 rfl).trans ?_
  refine (R_putI zf267_7 zo_267 zfl_12_450 zk1_97 zft_12_40 rfl).trans ?_
  refine (R_aload_n zf267_10 rfl zlt_97 rfl).trans ?_
  refine (R_iconst zf267_11 zw_0 rfl).trans ?_
  refine (R_putI zf267_12 zo_267 zfl_12_453 zk1_97 zft_12_41 rfl).trans ?_
  refine (R_aload_n zf267_15 rfl zlt_97 rfl).trans ?_
  refine (R_iconst zf267_16 zw_0 rfl).trans ?_
  refine (R_putI zf267_17 zo_267 zfl_12_456 zk1_97 zft_12_42 rfl).trans ?_
  refine (R_aload_n zf267_20 rfl zlt_97 rfl).trans ?_
  refine (R_iload_n zf267_21 rfl rfl).trans ?_
  refine (R_iload_n zf267_22 rfl rfl).trans ?_
  refine (R_iload_n zf267_23 rfl rfl).trans ?_
  refine (R_iconst zf267_24 zw_1 rfl).trans ?_
  refine (R_iload_n zf267_25 rfl rfl).trans ?_
  refine (R_ishl zf267_26 rfl).trans ?_
  refine (R_iconst zf267_27 zw_0 rfl).trans ?_
  refine (R_iconst zf267_28 zw_0 rfl).trans ?_
  refine (R_iconst zf267_29 zw_0 rfl).trans ?_
  refine (R_vcallV zf267_30 zo_267 zvl_12_459 zr_268 zl_268 (Nat.le_of_ble_eq_true rfl) rfl rfl (Nat.le_of_ble_eq_true rfl) (Nat.le_of_ble_eq_true rfl) (es := [.inr (.inr (.inl 97)), .inl x0, .inl x1, .inl x2, .inl (iShl 1 x1), .inl 0, .inl 0, .inl 0, vU]) rfl rfl zk1_97 zo_268).trans ?_
  refine congrArg (cV _) (funext fun h2_ => ?_)
  refine (R_aload_n zf267_33 rfl zlt_97 rfl).trans ?_
  refine (R_getI zf267_34 zo_267 zfl_12_450 zk1_97 zft_12_40 rfl).trans ?_
  refine (R_iconst zf267_37 zw_m1 rfl).trans ?_
  refine (R_icmp_eq (t := 45) zf267_38 rfl rfl).trans ?_
  refine ite_congr rfl (fun c3_ => ?_) (fun c3_ => ?_)
  · refine (R_iconst zf267_45 zw_0 rfl).trans ?_
    exact R_ireturn zf267_46 (by rw [zr_267]; rfl)
  · refine (R_iconst zf267_41 zw_1 rfl).trans ?_
    refine (R_goto (t := 46) zf267_42 rfl).trans ?_
    exact R_ireturn zf267_46 (by rw [zr_267]; rfl)
-- CannonPostModel.sureOf(III)I at 0
theorem q270_0 (d : Nat) (x0 : Int) (x1 : Int) (x2 : Int) (h : MH) : Run (d + 1) 270 0 [.inr (.inr (.inl 97)), .inl x0, .inl x1, .inl x2, vU, vU, vU] [] h = (cI (Run d 267 0 [.inr (.inr (.inl 97)), .inl x0, .inl x1, .inl x2] [] h) fun a2_ h1_ => (if ¬ a2_ = 0 then Run (d + 1) 270 20 [.inr (.inr (.inl 97)), .inl x0, .inl x1, .inl x2, .inr (.inl 1000000000), vU, .inl 0] [] h1_ else some (some (.inl (-1)), h1_))) := by
  refine (R_aload_n zf270_0 rfl zlt_97 rfl).trans ?_
  refine (R_iload_n zf270_1 rfl rfl).trans ?_
  refine (R_iload_n zf270_2 rfl rfl).trans ?_
  refine (R_iload_n zf270_3 rfl rfl).trans ?_
  refine (R_vcallI zf270_4 zo_270 zvl_12_463 (by rw [zr_267]; rfl) zl_267 (Nat.le_of_ble_eq_true rfl) rfl rfl (Nat.le_of_ble_eq_true rfl) (Nat.le_of_ble_eq_true rfl) (es := [.inr (.inr (.inl 97)), .inl x0, .inl x1, .inl x2]) rfl rfl zk1_97 zo_267).trans ?_
  refine congrArg (cI _) (funext fun a2_ => funext fun h1_ => ?_)
  refine (R_if_ne (t := 12) zf270_7 rfl rfl).trans ?_
  refine ite_congr rfl (fun c3_ => ?_) (fun c3_ => ?_)
  · refine (R_ldc2_w zf270_12 zo_270 zll_12_467 rfl).trans ?_
    refine (R_lstore (ls' := [.inr (.inr (.inl 97)), .inl x0, .inl x1, .inl x2, .inr (.inl 1000000000), vU, vU]) zf270_15 (Nat.le_of_ble_eq_true rfl) rfl rfl).trans ?_
    refine (R_iconst zf270_17 zw_0 rfl).trans ?_
    refine (R_istore (ls' := [.inr (.inr (.inl 97)), .inl x0, .inl x1, .inl x2, .inr (.inl 1000000000), vU, .inl 0]) zf270_18 (Nat.le_of_ble_eq_true rfl) rfl rfl).trans ?_
    rfl
  · refine (R_iconst zf270_10 zw_m1 rfl).trans ?_
    exact R_ireturn_i zf270_11 zr_270
-- CannonPostModel.surest(II)I at 31
theorem q271_31 (d : Nat) (x0 : Int) (x1 : Int) (x2 : Int) (x3 : Int) (x4 : Int) (z5 : MV) (hz5 : cat z5 = 1) (h : MH) : Run (d + 1) 271 31 [.inr (.inr (.inl 97)), .inl x0, .inl x1, .inl x2, .inl x3, .inl x4, z5] [] h = (if (h 97 27) ≤ x4 then some (some (.inl x2), h) else (cI (Run d 270 0 [.inr (.inr (.inl 97)), .inl x4, .inl x0, .inl x1, vU, vU, vU] [] h) fun a3_ h2_ => (if x3 < a3_ then Run (d + 1) 271 31 [.inr (.inr (.inl 97)), .inl x0, .inl x1, .inl x4, .inl a3_, .inl (wI (x4 + 1)), .inl a3_] [] h2_ else Run (d + 1) 271 31 [.inr (.inr (.inl 97)), .inl x0, .inl x1, .inl x2, .inl x3, .inl (wI (x4 + 1)), .inl a3_] [] h2_))) := by
  refine (R_iload zf271_31 rfl rfl).trans ?_
  refine (R_aload_n zf271_33 rfl zlt_97 rfl).trans ?_
  refine (R_getI zf271_34 zo_271 zfl_12_297 zk1_97 zft_12_27 rfl).trans ?_
  refine (R_icmp_ge (t := 73) zf271_37 rfl rfl).trans ?_
  refine ite_congr rfl (fun c1_ => ?_) (fun c1_ => ?_)
  · refine (R_iload_n zf271_73 rfl rfl).trans ?_
    exact R_ireturn_i zf271_74 zr_271
  · refine (R_aload_n zf271_40 rfl zlt_97 rfl).trans ?_
    refine (R_iload zf271_41 rfl rfl).trans ?_
    refine (R_iload_n zf271_43 rfl rfl).trans ?_
    refine (R_iload_n zf271_44 rfl rfl).trans ?_
    refine (R_vcallI zf271_45 zo_271 zvl_12_471 (by rw [zr_270]; rfl) zl_270 (Nat.le_of_ble_eq_true rfl) rfl rfl (Nat.le_of_ble_eq_true rfl) (Nat.le_of_ble_eq_true rfl) (es := [.inr (.inr (.inl 97)), .inl x4, .inl x0, .inl x1, vU, vU, vU]) rfl rfl zk1_97 zo_270).trans ?_
    refine congrArg (cI _) (funext fun a3_ => funext fun h2_ => ?_)
    refine (R_istore (ls' := [.inr (.inr (.inl 97)), .inl x0, .inl x1, .inl x2, .inl x3, .inl x4, .inl a3_]) zf271_48 (Nat.le_of_ble_eq_true rfl) rfl rfl).trans ?_
    refine (R_iload zf271_50 rfl rfl).trans ?_
    refine (R_iload zf271_52 rfl rfl).trans ?_
    refine (R_icmp_gt (t := 60) zf271_54 rfl rfl).trans ?_
    refine ite_congr rfl (fun c4_ => ?_) (fun c4_ => ?_)
    · refine (R_iload zf271_60 rfl rfl).trans ?_
      refine (R_istore_n (ls' := [.inr (.inr (.inl 97)), .inl x0, .inl x1, .inl x4, .inl x3, .inl x4, .inl a3_]) zf271_62 (Nat.le_of_ble_eq_true rfl) rfl rfl).trans ?_
      refine (R_iload zf271_63 rfl rfl).trans ?_
      refine (R_istore (ls' := [.inr (.inr (.inl 97)), .inl x0, .inl x1, .inl x4, .inl a3_, .inl x4, .inl a3_]) zf271_65 (Nat.le_of_ble_eq_true rfl) rfl rfl).trans ?_
      refine (R_iinc (ls' := [.inr (.inr (.inl 97)), .inl x0, .inl x1, .inl x4, .inl a3_, .inl (wI (x4 + 1)), .inl a3_]) zf271_67 rfl rfl rfl).trans ?_
      refine (R_goto (t := 31) zf271_70 rfl).trans ?_
      rfl
    · refine (R_goto (t := 67) zf271_57 rfl).trans ?_
      refine (R_iinc (ls' := [.inr (.inr (.inl 97)), .inl x0, .inl x1, .inl x2, .inl x3, .inl (wI (x4 + 1)), .inl a3_]) zf271_67 rfl rfl rfl).trans ?_
      refine (R_goto (t := 31) zf271_70 rfl).trans ?_
      rfl
-- CannonPostModel.layAllAims()V at 0
theorem q273_0 (d : Nat) (h : MH) : Run (d + 1) 273 0 [.inr (.inr (.inl 97)), vU] [] h = Run (d + 1) 273 2 [.inr (.inr (.inl 97)), .inl 0] [] h := by
  refine (R_iconst zf273_0 zw_0 rfl).trans ?_
  refine (R_istore_n (ls' := [.inr (.inr (.inl 97)), .inl 0]) zf273_1 (Nat.le_of_ble_eq_true rfl) rfl rfl).trans ?_
  rfl
-- CannonPostModel.knowers(I)I at 0
theorem q274_0 (d : Nat) (x0 : Int) (h : MH) : Run (d + 1) 274 0 [.inr (.inr (.inl 97)), .inl x0, vU, vU] [] h = Run (d + 1) 274 4 [.inr (.inr (.inl 97)), .inl x0, .inl 0, .inl 0] [] h := by
  refine (R_iconst zf274_0 zw_0 rfl).trans ?_
  refine (R_istore_n (ls' := [.inr (.inr (.inl 97)), .inl x0, .inl 0, vU]) zf274_1 (Nat.le_of_ble_eq_true rfl) rfl rfl).trans ?_
  refine (R_iconst zf274_2 zw_0 rfl).trans ?_
  refine (R_istore_n (ls' := [.inr (.inr (.inl 97)), .inl x0, .inl 0, .inl 0]) zf274_3 (Nat.le_of_ble_eq_true rfl) rfl rfl).trans ?_
  rfl
-- CannonPostModel.relay(III)I at 51
theorem q272_51 (d : Nat) (z0 : MV) (hz0 : cat z0 = 1) (x1 : Int) (x2 : Int) (x3 : Int) (x4 : Int) (z5 : MV) (hz5 : cat z5 = 1) (z6 : MV) (hz6 : cat z6 = 1) (h : MH) : Run (d + 1) 272 51 [.inr (.inr (.inl 97)), z0, .inl x1, .inl x2, .inl x3, .inl x4, z5, z6] [] h = (if (h 97 27) ≤ x4 then (cI (Run d 192 0 [.inl x3, .inl x1] [] h) fun a3_ h2_ => (if a3_ = 0 then Run (d + 1) 272 97 [.inr (.inr (.inl 97)), z0, .inl x1, .inl x2, .inl x3, .inl 1, z5, z6] [] h2_ else some (some (.inl 0), h2_))) else (cI (Run d 217 0 [.inl x4] [] h) fun a6_ h5_ => (if 0 ≤ a6_ ∧ a6_ < 277 then (if 0 ≤ x4 ∧ x4 < 5 then Run (d + 1) 272 51 [.inr (.inr (.inl 97)), z0, .inl x1, .inl x2, .inl x3, .inl (wI (x4 + 1)), z5, z6] [] (up h5_ 114 x4.toNat (h5_ 110 a6_.toNat)) else none) else none))) := by
  refine (R_iload zf272_51 rfl rfl).trans ?_
  refine (R_aload_n zf272_53 rfl zlt_97 rfl).trans ?_
  refine (R_getI zf272_54 zo_272 zfl_12_297 zk1_97 zft_12_27 rfl).trans ?_
  refine (R_icmp_ge (t := 83) zf272_57 rfl rfl).trans ?_
  refine ite_congr rfl (fun c1_ => ?_) (fun c1_ => ?_)
  · refine (R_iload zf272_83 rfl rfl).trans ?_
    refine (R_iload_n zf272_85 rfl rfl).trans ?_
    refine (R_callI zf272_86 zo_272 zsl_12_229 (by rw [zr_192]; rfl) zl_192 (Nat.le_of_ble_eq_true rfl) rfl rfl (Nat.le_of_ble_eq_true rfl) (Nat.le_of_ble_eq_true rfl) (es := [.inl x3, .inl x1]) rfl rfl).trans ?_
    refine congrArg (cI _) (funext fun a3_ => funext fun h2_ => ?_)
    refine (R_if_eq (t := 94) zf272_89 rfl rfl).trans ?_
    refine ite_congr rfl (fun c4_ => ?_) (fun c4_ => ?_)
    · refine (R_iconst zf272_94 zw_1 rfl).trans ?_
      refine (R_istore (ls' := [.inr (.inr (.inl 97)), z0, .inl x1, .inl x2, .inl x3, .inl 1, z5, z6]) zf272_95 (Nat.le_of_ble_eq_true rfl) rfl rfl).trans ?_
      rfl
    · refine (R_iconst zf272_92 zw_0 rfl).trans ?_
      exact R_ireturn_i zf272_93 zr_272
  · refine (R_aload_n zf272_60 rfl zlt_97 rfl).trans ?_
    refine (R_getR zf272_61 zo_272 zfl_12_77 zk1_97 zft_12_43 zmr_97_43 rfl).trans ?_
    refine (R_iload zf272_64 rfl rfl).trans ?_
    refine (R_aload_n zf272_66 rfl zlt_97 rfl).trans ?_
    refine (R_getR zf272_67 zo_272 zfl_12_61 zk1_97 zft_12_32 zmr_97_32 rfl).trans ?_
    refine (R_iload zf272_70 rfl rfl).trans ?_
    refine (R_callI zf272_72 zo_272 zsl_12_300 (by rw [zr_217]; rfl) zl_217 (Nat.le_of_ble_eq_true rfl) rfl rfl (Nat.le_of_ble_eq_true rfl) (Nat.le_of_ble_eq_true rfl) (es := [.inl x4]) rfl rfl).trans ?_
    refine congrArg (cI _) (funext fun a6_ => funext fun h5_ => ?_)
    refine (R_iald zf272_75 zk_110 rfl).trans ?_
    refine ite_congr rfl (fun c7_ => ?_) (fun _ => rfl)
    refine (R_iast zf272_76 zk_114 rfl).trans ?_
    refine ite_congr rfl (fun c8_ => ?_) (fun _ => rfl)
    refine (R_iinc (ls' := [.inr (.inr (.inl 97)), z0, .inl x1, .inl x2, .inl x3, .inl (wI (x4 + 1)), z5, z6]) zf272_77 rfl rfl rfl).trans ?_
    refine (R_goto (t := 51) zf272_80 rfl).trans ?_
    rfl
-- CannonPostModel.winds(I)I at 23
theorem q278_23 (d : Nat) (x0 : Int) (x1 : Int) (x2 : Int) (h : MH) : Run (d + 1) 278 23 [.inr (.inr (.inl 97)), .inl x0, .inl x1, .inl x2] [] h = (if 20 ≤ x2 then (if ¬ x0 = (-1) then some (some (.inl (-1)), h) else some (some (.inl x1), h)) else (cI (Run d 279 0 [.inr (.inr (.inl 97)), .inl x2, vU] [] h) fun a4_ h3_ => (if ¬ a4_ = 0 then (if ¬ x1 = x0 then Run (d + 1) 278 23 [.inr (.inr (.inl 97)), .inl x0, .inl (wI (x1 + 1)), .inl (wI (x2 + 1))] [] h3_ else some (some (.inl x2), h3_)) else Run (d + 1) 278 23 [.inr (.inr (.inl 97)), .inl x0, .inl x1, .inl (wI (x2 + 1))] [] h3_))) := by
  refine (R_iload_n zf278_23 rfl rfl).trans ?_
  refine (R_bipush zf278_24 zb_20 rfl).trans ?_
  refine (R_icmp_ge (t := 56) zf278_26 rfl rfl).trans ?_
  refine ite_congr rfl (fun c1_ => ?_) (fun c1_ => ?_)
  · refine (R_iload_n zf278_56 rfl rfl).trans ?_
    refine (R_iconst zf278_57 zw_m1 rfl).trans ?_
    refine (R_icmp_ne (t := 65) zf278_58 rfl rfl).trans ?_
    refine ite_congr rfl (fun c2_ => ?_) (fun c2_ => ?_)
    · refine (R_iconst zf278_65 zw_m1 rfl).trans ?_
      exact R_ireturn_i zf278_66 zr_278
    · refine (R_iload_n zf278_61 rfl rfl).trans ?_
      refine (R_goto (t := 66) zf278_62 rfl).trans ?_
      exact R_ireturn_i zf278_66 zr_278
  · refine (R_aload_n zf278_29 rfl zlt_97 rfl).trans ?_
    refine (R_iload_n zf278_30 rfl rfl).trans ?_
    refine (R_vcallI zf278_31 zo_278 zvl_12_491 (by rw [zr_279]; rfl) zl_279 (Nat.le_of_ble_eq_true rfl) rfl rfl (Nat.le_of_ble_eq_true rfl) (Nat.le_of_ble_eq_true rfl) (es := [.inr (.inr (.inl 97)), .inl x2, vU]) rfl rfl zk1_97 zo_279).trans ?_
    refine congrArg (cI _) (funext fun a4_ => funext fun h3_ => ?_)
    refine (R_if_ne (t := 40) zf278_34 rfl rfl).trans ?_
    refine ite_congr rfl (fun c5_ => ?_) (fun c5_ => ?_)
    · refine (R_iload_n zf278_40 rfl rfl).trans ?_
      refine (R_iload_n zf278_41 rfl rfl).trans ?_
      refine (R_icmp_ne (t := 47) zf278_42 rfl rfl).trans ?_
      refine ite_congr rfl (fun c6_ => ?_) (fun c6_ => ?_)
      · refine (R_iinc (ls' := [.inr (.inr (.inl 97)), .inl x0, .inl (wI (x1 + 1)), .inl x2]) zf278_47 rfl rfl rfl).trans ?_
        refine (R_iinc (ls' := [.inr (.inr (.inl 97)), .inl x0, .inl (wI (x1 + 1)), .inl (wI (x2 + 1))]) zf278_50 rfl rfl rfl).trans ?_
        refine (R_goto (t := 23) zf278_53 rfl).trans ?_
        rfl
      · refine (R_iload_n zf278_45 rfl rfl).trans ?_
        exact R_ireturn_i zf278_46 zr_278
    · refine (R_goto (t := 50) zf278_37 rfl).trans ?_
      refine (R_iinc (ls' := [.inr (.inr (.inl 97)), .inl x0, .inl x1, .inl (wI (x2 + 1))]) zf278_50 rfl rfl rfl).trans ?_
      refine (R_goto (t := 23) zf278_53 rfl).trans ?_
      rfl
-- CannonPostModel.ask(II)I at 28
theorem q280_28 (d : Nat) (x0 : Int) (x1 : Int) (x2 : Int) (x3 : Int) (z4 : MV) (hz4 : cat z4 = 1) (z5 : MV) (hz5 : cat z5 = 1) (z6 : MV) (hz6 : cat z6 = 1) (z7 : MV) (hz7 : cat z7 = 1) (z8 : MV) (hz8 : cat z8 = 1) (z9 : MV) (hz9 : cat z9 = 1) (h : MH) : Run (d + 1) 280 28 [.inr (.inr (.inl 97)), .inl x0, .inl x1, .inl x2, .inl x3, z4, z5, z6, z7, z8, z9] [] h = (if 20 ≤ x3 then (if ¬ x2 = 0 then Run (d + 1) 280 76 [.inr (.inr (.inl 97)), .inl x0, .inl x1, .inl x2, .inl (-1), .inl 0, .inl 0, z6, z7, z8, z9] [] h else some (some (.inl (-1)), h)) else (cI (Run d 279 0 [.inr (.inr (.inl 97)), .inl x3, vU] [] h) fun a4_ h3_ => (if a4_ = 0 then Run (d + 1) 280 28 [.inr (.inr (.inl 97)), .inl x0, .inl x1, .inl (iOr x2 0), .inl (wI (x3 + 1)), z4, z5, z6, z7, z8, z9] [] h3_ else Run (d + 1) 280 28 [.inr (.inr (.inl 97)), .inl x0, .inl x1, .inl (iOr x2 (iShl 1 x3)), .inl (wI (x3 + 1)), z4, z5, z6, z7, z8, z9] [] h3_))) := by
  refine (R_iload zf280_28 rfl rfl).trans ?_
  refine (R_bipush zf280_30 zb_20 rfl).trans ?_
  refine (R_icmp_ge (t := 61) zf280_32 rfl rfl).trans ?_
  refine ite_congr rfl (fun c1_ => ?_) (fun c1_ => ?_)
  · refine (R_iload_n zf280_61 rfl rfl).trans ?_
    refine (R_if_ne (t := 67) zf280_62 rfl rfl).trans ?_
    refine ite_congr rfl (fun c2_ => ?_) (fun c2_ => ?_)
    · refine (R_iconst zf280_67 zw_m1 rfl).trans ?_
      refine (R_istore (ls' := [.inr (.inr (.inl 97)), .inl x0, .inl x1, .inl x2, .inl (-1), z4, z5, z6, z7, z8, z9]) zf280_68 (Nat.le_of_ble_eq_true rfl) rfl rfl).trans ?_
      refine (R_iconst zf280_70 zw_0 rfl).trans ?_
      refine (R_istore (ls' := [.inr (.inr (.inl 97)), .inl x0, .inl x1, .inl x2, .inl (-1), .inl 0, z5, z6, z7, z8, z9]) zf280_71 (Nat.le_of_ble_eq_true rfl) rfl rfl).trans ?_
      refine (R_iconst zf280_73 zw_0 rfl).trans ?_
      refine (R_istore (ls' := [.inr (.inr (.inl 97)), .inl x0, .inl x1, .inl x2, .inl (-1), .inl 0, .inl 0, z6, z7, z8, z9]) zf280_74 (Nat.le_of_ble_eq_true rfl) rfl rfl).trans ?_
      rfl
    · refine (R_iconst zf280_65 zw_m1 rfl).trans ?_
      exact R_ireturn_i zf280_66 zr_280
  · refine (R_iload_n zf280_35 rfl rfl).trans ?_
    refine (R_aload_n zf280_36 rfl zlt_97 rfl).trans ?_
    refine (R_iload zf280_37 rfl rfl).trans ?_
    refine (R_vcallI zf280_39 zo_280 zvl_12_491 (by rw [zr_279]; rfl) zl_279 (Nat.le_of_ble_eq_true rfl) rfl rfl (Nat.le_of_ble_eq_true rfl) (Nat.le_of_ble_eq_true rfl) (es := [.inr (.inr (.inl 97)), .inl x3, vU]) rfl rfl zk1_97 zo_279).trans ?_
    refine congrArg (cI _) (funext fun a4_ => funext fun h3_ => ?_)
    refine (R_if_eq (t := 52) zf280_42 rfl rfl).trans ?_
    refine ite_congr rfl (fun c5_ => ?_) (fun c5_ => ?_)
    · refine (R_iconst zf280_52 zw_0 rfl).trans ?_
      refine (R_ior zf280_53 rfl).trans ?_
      refine (R_istore_n (ls' := [.inr (.inr (.inl 97)), .inl x0, .inl x1, .inl (iOr x2 0), .inl x3, z4, z5, z6, z7, z8, z9]) zf280_54 (Nat.le_of_ble_eq_true rfl) rfl rfl).trans ?_
      refine (R_iinc (ls' := [.inr (.inr (.inl 97)), .inl x0, .inl x1, .inl (iOr x2 0), .inl (wI (x3 + 1)), z4, z5, z6, z7, z8, z9]) zf280_55 rfl rfl rfl).trans ?_
      refine (R_goto (t := 28) zf280_58 rfl).trans ?_
      rfl
    · refine (R_iconst zf280_45 zw_1 rfl).trans ?_
      refine (R_iload zf280_46 rfl rfl).trans ?_
      refine (R_ishl zf280_48 rfl).trans ?_
      refine (R_goto (t := 53) zf280_49 rfl).trans ?_
      refine (R_ior zf280_53 rfl).trans ?_
      refine (R_istore_n (ls' := [.inr (.inr (.inl 97)), .inl x0, .inl x1, .inl (iOr x2 (iShl 1 x3)), .inl x3, z4, z5, z6, z7, z8, z9]) zf280_54 (Nat.le_of_ble_eq_true rfl) rfl rfl).trans ?_
      refine (R_iinc (ls' := [.inr (.inr (.inl 97)), .inl x0, .inl x1, .inl (iOr x2 (iShl 1 x3)), .inl (wI (x3 + 1)), z4, z5, z6, z7, z8, z9]) zf280_55 rfl rfl rfl).trans ?_
      refine (R_goto (t := 28) zf280_58 rfl).trans ?_
      rfl
-- CannonPostModel.netOf(II)I at 0
theorem q282_0 (d : Nat) (x0 : Int) (x1 : Int) (h : MH) : Run (d + 1) 282 0 [.inr (.inr (.inl 97)), .inl x0, .inl x1, vU, vU, vU, vU] [] h = Run (d + 1) 282 7 [.inr (.inr (.inl 97)), .inl x0, .inl x1, .inl (iShl 1 x0), .inl 0, vU, vU] [] h := by
  refine (R_iconst zf282_0 zw_1 rfl).trans ?_
  refine (R_iload_n zf282_1 rfl rfl).trans ?_
  refine (R_ishl zf282_2 rfl).trans ?_
  refine (R_istore_n (ls' := [.inr (.inr (.inl 97)), .inl x0, .inl x1, .inl (iShl 1 x0), vU, vU, vU]) zf282_3 (Nat.le_of_ble_eq_true rfl) rfl rfl).trans ?_
  refine (R_iconst zf282_4 zw_0 rfl).trans ?_
  refine (R_istore (ls' := [.inr (.inr (.inl 97)), .inl x0, .inl x1, .inl (iShl 1 x0), .inl 0, vU, vU]) zf282_5 (Nat.le_of_ble_eq_true rfl) rfl rfl).trans ?_
  rfl
-- CannonPostModel.cuts()I at 29
theorem q284_29 (d : Nat) (x0 : Int) (x1 : Int) (x2 : Int) (h : MH) : Run (d + 1) 284 29 [.inr (.inr (.inl 97)), .inl x0, .inl x1, .inl x2] [] h = (if (h 97 26) ≤ x2 then some (some (.inl x1), h) else (cI (Run d 282 0 [.inr (.inr (.inl 97)), .inl 0, .inl x2, vU, vU, vU, vU] [] h) fun a3_ h2_ => (if (iAnd (iAnd x0 (iXor (iShl 1 x2) (-1))) (iXor a3_ (-1))) = 0 then Run (d + 1) 284 29 [.inr (.inr (.inl 97)), .inl x0, .inl x1, .inl (wI (x2 + 1))] [] h2_ else Run (d + 1) 284 29 [.inr (.inr (.inl 97)), .inl x0, .inl (iOr x1 (iShl 1 x2)), .inl (wI (x2 + 1))] [] h2_))) := by
  refine (R_iload_n zf284_29 rfl rfl).trans ?_
  refine (R_aload_n zf284_30 rfl zlt_97 rfl).trans ?_
  refine (R_getI zf284_31 zo_284 zfl_12_294 zk1_97 zft_12_26 rfl).trans ?_
  refine (R_icmp_ge (t := 68) zf284_34 rfl rfl).trans ?_
  refine ite_congr rfl (fun c1_ => ?_) (fun c1_ => ?_)
  · refine (R_iload_n zf284_68 rfl rfl).trans ?_
    exact R_ireturn_i zf284_69 zr_284
  · refine (R_iload_n zf284_37 rfl rfl).trans ?_
    refine (R_iconst zf284_38 zw_1 rfl).trans ?_
    refine (R_iload_n zf284_39 rfl rfl).trans ?_
    refine (R_ishl zf284_40 rfl).trans ?_
    refine (R_iconst zf284_41 zw_m1 rfl).trans ?_
    refine (R_ixor zf284_42 rfl).trans ?_
    refine (R_iand zf284_43 rfl).trans ?_
    refine (R_aload_n zf284_44 rfl zlt_97 rfl).trans ?_
    refine (R_iconst zf284_45 zw_0 rfl).trans ?_
    refine (R_iload_n zf284_46 rfl rfl).trans ?_
    refine (R_vcallI zf284_47 zo_284 zvl_12_497 (by rw [zr_282]; rfl) zl_282 (Nat.le_of_ble_eq_true rfl) rfl rfl (Nat.le_of_ble_eq_true rfl) (Nat.le_of_ble_eq_true rfl) (es := [.inr (.inr (.inl 97)), .inl 0, .inl x2, vU, vU, vU, vU]) rfl rfl zk1_97 zo_282).trans ?_
    refine congrArg (cI _) (funext fun a3_ => funext fun h2_ => ?_)
    refine (R_iconst zf284_50 zw_m1 rfl).trans ?_
    refine (R_ixor zf284_51 rfl).trans ?_
    refine (R_iand zf284_52 rfl).trans ?_
    refine (R_if_eq (t := 62) zf284_53 rfl rfl).trans ?_
    refine ite_congr rfl (fun c4_ => ?_) (fun c4_ => ?_)
    · refine (R_iinc (ls' := [.inr (.inr (.inl 97)), .inl x0, .inl x1, .inl (wI (x2 + 1))]) zf284_62 rfl rfl rfl).trans ?_
      refine (R_goto (t := 29) zf284_65 rfl).trans ?_
      rfl
    · refine (R_iload_n zf284_56 rfl rfl).trans ?_
      refine (R_iconst zf284_57 zw_1 rfl).trans ?_
      refine (R_iload_n zf284_58 rfl rfl).trans ?_
      refine (R_ishl zf284_59 rfl).trans ?_
      refine (R_ior zf284_60 rfl).trans ?_
      refine (R_istore_n (ls' := [.inr (.inr (.inl 97)), .inl x0, .inl (iOr x1 (iShl 1 x2)), .inl x2]) zf284_61 (Nat.le_of_ble_eq_true rfl) rfl rfl).trans ?_
      refine (R_iinc (ls' := [.inr (.inr (.inl 97)), .inl x0, .inl (iOr x1 (iShl 1 x2)), .inl (wI (x2 + 1))]) zf284_62 rfl rfl rfl).trans ?_
      refine (R_goto (t := 29) zf284_65 rfl).trans ?_
      rfl
-- CannonPostModel.isGame(III)Z at 0
theorem q286_0 (d : Nat) (x0 : Int) (x1 : Int) (x2 : Int) (h : MH) : Run (d + 1) 286 0 [.inr (.inr (.inl 97)), .inl x0, .inl x1, .inl x2] [] h = (cI (Run d 222 0 [.inr (.inr (.inl 97)), .inl x0] [] h) fun a2_ h1_ => (if a2_ = 0 then some (some (.inl 0), h1_) else (cI (Run d 222 0 [.inr (.inr (.inl 97)), .inl x1] [] h1_) fun a5_ h4_ => (if a5_ = 0 then some (some (.inl 0), h4_) else (if x0 = x1 then some (some (.inl 0), h4_) else (cI (Run d 183 0 [.inr (.inl x2), vU, .inr (.inl 0), vU, .inr (.inl 20), vU] [] h4_) fun a9_ h8_ => (if a9_ = 0 then some (some (.inl 0), h8_) else some (some (.inl 1), h8_)))))))) := by
  refine (R_aload_n zf286_0 rfl zlt_97 rfl).trans ?_
  refine (R_iload_n zf286_1 rfl rfl).trans ?_
  refine (R_vcallI zf286_2 zo_286 zvl_12_339 (by rw [zr_222]; rfl) zl_222 (Nat.le_of_ble_eq_true rfl) rfl rfl (Nat.le_of_ble_eq_true rfl) (Nat.le_of_ble_eq_true rfl) (es := [.inr (.inr (.inl 97)), .inl x0]) rfl rfl zk1_97 zo_222).trans ?_
  refine congrArg (cI _) (funext fun a2_ => funext fun h1_ => ?_)
  refine (R_if_eq (t := 37) zf286_5 rfl rfl).trans ?_
  refine ite_congr rfl (fun c3_ => ?_) (fun c3_ => ?_)
  · refine (R_iconst zf286_37 zw_0 rfl).trans ?_
    exact R_ireturn zf286_38 (by rw [zr_286]; rfl)
  · refine (R_aload_n zf286_8 rfl zlt_97 rfl).trans ?_
    refine (R_iload_n zf286_9 rfl rfl).trans ?_
    refine (R_vcallI zf286_10 zo_286 zvl_12_339 (by rw [zr_222]; rfl) zl_222 (Nat.le_of_ble_eq_true rfl) rfl rfl (Nat.le_of_ble_eq_true rfl) (Nat.le_of_ble_eq_true rfl) (es := [.inr (.inr (.inl 97)), .inl x1]) rfl rfl zk1_97 zo_222).trans ?_
    refine congrArg (cI _) (funext fun a5_ => funext fun h4_ => ?_)
    refine (R_if_eq (t := 37) zf286_13 rfl rfl).trans ?_
    refine ite_congr rfl (fun c6_ => ?_) (fun c6_ => ?_)
    · refine (R_iconst zf286_37 zw_0 rfl).trans ?_
      exact R_ireturn zf286_38 (by rw [zr_286]; rfl)
    · refine (R_iload_n zf286_16 rfl rfl).trans ?_
      refine (R_iload_n zf286_17 rfl rfl).trans ?_
      refine (R_icmp_eq (t := 37) zf286_18 rfl rfl).trans ?_
      refine ite_congr rfl (fun c7_ => ?_) (fun c7_ => ?_)
      · refine (R_iconst zf286_37 zw_0 rfl).trans ?_
        exact R_ireturn zf286_38 (by rw [zr_286]; rfl)
      · refine (R_iload_n zf286_21 rfl rfl).trans ?_
        refine (R_i2l zf286_22 rfl).trans ?_
        refine (R_lconst (v := 0) zf286_23 rfl rfl).trans ?_
        refine (R_ldc2_w zf286_24 zo_286 zll_12_346 rfl).trans ?_
        refine (R_callI zf286_27 zo_286 zsl_12_217 (by rw [zr_183]; rfl) zl_183 (Nat.le_of_ble_eq_true rfl) rfl rfl (Nat.le_of_ble_eq_true rfl) (Nat.le_of_ble_eq_true rfl) (es := [.inr (.inl x2), vU, .inr (.inl 0), vU, .inr (.inl 20), vU]) rfl rfl).trans ?_
        refine congrArg (cI _) (funext fun a9_ => funext fun h8_ => ?_)
        refine (R_if_eq (t := 37) zf286_30 rfl rfl).trans ?_
        refine ite_congr rfl (fun c10_ => ?_) (fun c10_ => ?_)
        · refine (R_iconst zf286_37 zw_0 rfl).trans ?_
          exact R_ireturn zf286_38 (by rw [zr_286]; rfl)
        · refine (R_iconst zf286_33 zw_1 rfl).trans ?_
          refine (R_goto (t := 38) zf286_34 rfl).trans ?_
          exact R_ireturn zf286_38 (by rw [zr_286]; rfl)
-- CannonPostModel.gameOf(IIII)I at 0
theorem q287_0 (d : Nat) (x0 : Int) (x1 : Int) (x2 : Int) (x3 : Int) (h : MH) : Run (d + 1) 287 0 [.inr (.inr (.inl 97)), .inl x0, .inl x1, .inl x2, .inl x3, vU] [] h = (if (wI (x2 + x3)) ≤ 0 then Run (d + 1) 287 13 [.inr (.inr (.inl 97)), .inl x0, .inl x1, .inl x2, .inl x3, vU] [.inl 0] h else Run (d + 1) 287 13 [.inr (.inr (.inl 97)), .inl x0, .inl x1, .inl x2, .inl x3, vU] [.inl 6] h) := by
  refine (R_iload_n zf287_0 rfl rfl).trans ?_
  refine (R_iload zf287_1 rfl rfl).trans ?_
  refine (R_iadd zf287_3 rfl).trans ?_
  refine (R_if_le (t := 12) zf287_4 rfl rfl).trans ?_
  refine ite_congr rfl (fun c1_ => ?_) (fun c1_ => ?_)
  · refine (R_iconst zf287_12 zw_0 rfl).trans ?_
    rfl
  · refine (R_bipush zf287_7 zb_6 rfl).trans ?_
    refine (R_goto (t := 13) zf287_9 rfl).trans ?_
    rfl
-- CannonPostModel.rests(IIII)I at 29
theorem q288_29 (d : Nat) (x0 : Int) (x1 : Int) (x2 : Int) (x3 : Int) (x4 : Int) (x5 : Int) (z6 : MV) (hz6 : cat z6 = 1) (z7 : MV) (hz7 : cat z7 = 1) (h : MH) : Run (d + 1) 288 29 [.inr (.inr (.inl 97)), .inl x0, .inl x1, .inl x2, .inl x3, .inl x4, .inl x5, z6, z7] [] h = (if 4 ≤ x5 then (if ¬ x3 = (-1) then some (some (.inl (-1)), h) else some (some (.inl x4), h)) else (cI (Run d 287 0 [.inr (.inr (.inl 97)), .inl x0, .inl x2, .inl (wI (1 - (wI (x5.tdiv 2)))), .inl (x5.tmod 2), vU] [] h) fun a4_ h3_ => (cI (Run d 287 0 [.inr (.inr (.inl 97)), .inl x0, .inl x2, .inl (wI (x5.tdiv 2)), .inl (x5.tmod 2), vU] [] h3_) fun a6_ h5_ => (if a6_ < a4_ then Run (d + 1) 288 29 [.inr (.inr (.inl 97)), .inl x0, .inl x1, .inl x2, .inl x3, .inl x4, .inl (wI (x5 + 1)), .inl (wI (x5.tdiv 2)), .inl (x5.tmod 2)] [] h5_ else (cI (Run d 287 0 [.inr (.inr (.inl 97)), .inl x1, .inl x2, .inl (wI (1 - (x5.tmod 2))), .inl (wI (x5.tdiv 2)), vU] [] h5_) fun a9_ h8_ => (cI (Run d 287 0 [.inr (.inr (.inl 97)), .inl x1, .inl x2, .inl (x5.tmod 2), .inl (wI (x5.tdiv 2)), vU] [] h8_) fun a11_ h10_ => (if a9_ ≤ a11_ then (if ¬ x4 = x3 then Run (d + 1) 288 29 [.inr (.inr (.inl 97)), .inl x0, .inl x1, .inl x2, .inl x3, .inl (wI (x4 + 1)), .inl (wI (x5 + 1)), .inl (wI (x5.tdiv 2)), .inl (x5.tmod 2)] [] h10_ else some (some (.inl (wI ((wI (10 * (wI (x5.tdiv 2)))) + (x5.tmod 2)))), h10_)) else Run (d + 1) 288 29 [.inr (.inr (.inl 97)), .inl x0, .inl x1, .inl x2, .inl x3, .inl x4, .inl (wI (x5 + 1)), .inl (wI (x5.tdiv 2)), .inl (x5.tmod 2)] [] h10_))))))) := by
  refine (R_iload zf288_29 rfl rfl).trans ?_
  refine (R_iconst zf288_31 zw_4 rfl).trans ?_
  refine (R_icmp_ge (t := 125) zf288_32 rfl rfl).trans ?_
  refine ite_congr rfl (fun c1_ => ?_) (fun c1_ => ?_)
  · refine (R_iload zf288_125 rfl rfl).trans ?_
    refine (R_iconst zf288_127 zw_m1 rfl).trans ?_
    refine (R_icmp_ne (t := 136) zf288_128 rfl rfl).trans ?_
    refine ite_congr rfl (fun c2_ => ?_) (fun c2_ => ?_)
    · refine (R_iconst zf288_136 zw_m1 rfl).trans ?_
      exact R_ireturn_i zf288_137 zr_288
    · refine (R_iload zf288_131 rfl rfl).trans ?_
      refine (R_goto (t := 137) zf288_133 rfl).trans ?_
      exact R_ireturn_i zf288_137 zr_288
  · refine (R_iload zf288_35 rfl rfl).trans ?_
    refine (R_iconst zf288_37 zw_2 rfl).trans ?_
    refine (R_idiv zf288_38 (by decide) rfl).trans ?_
    refine (R_istore (ls' := [.inr (.inr (.inl 97)), .inl x0, .inl x1, .inl x2, .inl x3, .inl x4, .inl x5, .inl (wI (x5.tdiv 2)), z7]) zf288_39 (Nat.le_of_ble_eq_true rfl) rfl rfl).trans ?_
    refine (R_iload zf288_41 rfl rfl).trans ?_
    refine (R_iconst zf288_43 zw_2 rfl).trans ?_
    refine (R_irem zf288_44 (by decide) rfl).trans ?_
    refine (R_istore (ls' := [.inr (.inr (.inl 97)), .inl x0, .inl x1, .inl x2, .inl x3, .inl x4, .inl x5, .inl (wI (x5.tdiv 2)), .inl (x5.tmod 2)]) zf288_45 (Nat.le_of_ble_eq_true rfl) rfl rfl).trans ?_
    refine (R_aload_n zf288_47 rfl zlt_97 rfl).trans ?_
    refine (R_iload_n zf288_48 rfl rfl).trans ?_
    refine (R_iload_n zf288_49 rfl rfl).trans ?_
    refine (R_iconst zf288_50 zw_1 rfl).trans ?_
    refine (R_iload zf288_51 rfl rfl).trans ?_
    refine (R_isub zf288_53 rfl).trans ?_
    refine (R_iload zf288_54 rfl rfl).trans ?_
    refine (R_vcallI zf288_56 zo_288 zvl_12_503 (by rw [zr_287]; rfl) zl_287 (Nat.le_of_ble_eq_true rfl) rfl rfl (Nat.le_of_ble_eq_true rfl) (Nat.le_of_ble_eq_true rfl) (es := [.inr (.inr (.inl 97)), .inl x0, .inl x2, .inl (wI (1 - (wI (x5.tdiv 2)))), .inl (x5.tmod 2), vU]) rfl rfl zk1_97 zo_287).trans ?_
    refine congrArg (cI _) (funext fun a4_ => funext fun h3_ => ?_)
    refine (R_aload_n zf288_59 rfl zlt_97 rfl).trans ?_
    refine (R_iload_n zf288_60 rfl rfl).trans ?_
    refine (R_iload_n zf288_61 rfl rfl).trans ?_
    refine (R_iload zf288_62 rfl rfl).trans ?_
    refine (R_iload zf288_64 rfl rfl).trans ?_
    refine (R_vcallI zf288_66 zo_288 zvl_12_503 (by rw [zr_287]; rfl) zl_287 (Nat.le_of_ble_eq_true rfl) rfl rfl (Nat.le_of_ble_eq_true rfl) (Nat.le_of_ble_eq_true rfl) (es := [.inr (.inr (.inl 97)), .inl x0, .inl x2, .inl (wI (x5.tdiv 2)), .inl (x5.tmod 2), vU]) rfl rfl zk1_97 zo_287).trans ?_
    refine congrArg (cI _) (funext fun a6_ => funext fun h5_ => ?_)
    refine (R_icmp_gt (t := 119) zf288_69 rfl rfl).trans ?_
    refine ite_congr rfl (fun c7_ => ?_) (fun c7_ => ?_)
    · refine (R_iinc (ls' := [.inr (.inr (.inl 97)), .inl x0, .inl x1, .inl x2, .inl x3, .inl x4, .inl (wI (x5 + 1)), .inl (wI (x5.tdiv 2)), .inl (x5.tmod 2)]) zf288_119 rfl rfl rfl).trans ?_
      refine (R_goto (t := 29) zf288_122 rfl).trans ?_
      rfl
    · refine (R_aload_n zf288_72 rfl zlt_97 rfl).trans ?_
      refine (R_iload_n zf288_73 rfl rfl).trans ?_
      refine (R_iload_n zf288_74 rfl rfl).trans ?_
      refine (R_iconst zf288_75 zw_1 rfl).trans ?_
      refine (R_iload zf288_76 rfl rfl).trans ?_
      refine (R_isub zf288_78 rfl).trans ?_
      refine (R_iload zf288_79 rfl rfl).trans ?_
      refine (R_vcallI zf288_81 zo_288 zvl_12_503 (by rw [zr_287]; rfl) zl_287 (Nat.le_of_ble_eq_true rfl) rfl rfl (Nat.le_of_ble_eq_true rfl) (Nat.le_of_ble_eq_true rfl) (es := [.inr (.inr (.inl 97)), .inl x1, .inl x2, .inl (wI (1 - (x5.tmod 2))), .inl (wI (x5.tdiv 2)), vU]) rfl rfl zk1_97 zo_287).trans ?_
      refine congrArg (cI _) (funext fun a9_ => funext fun h8_ => ?_)
      refine (R_aload_n zf288_84 rfl zlt_97 rfl).trans ?_
      refine (R_iload_n zf288_85 rfl rfl).trans ?_
      refine (R_iload_n zf288_86 rfl rfl).trans ?_
      refine (R_iload zf288_87 rfl rfl).trans ?_
      refine (R_iload zf288_89 rfl rfl).trans ?_
      refine (R_vcallI zf288_91 zo_288 zvl_12_503 (by rw [zr_287]; rfl) zl_287 (Nat.le_of_ble_eq_true rfl) rfl rfl (Nat.le_of_ble_eq_true rfl) (Nat.le_of_ble_eq_true rfl) (es := [.inr (.inr (.inl 97)), .inl x1, .inl x2, .inl (x5.tmod 2), .inl (wI (x5.tdiv 2)), vU]) rfl rfl zk1_97 zo_287).trans ?_
      refine congrArg (cI _) (funext fun a11_ => funext fun h10_ => ?_)
      refine (R_icmp_le (t := 100) zf288_94 rfl rfl).trans ?_
      refine ite_congr rfl (fun c12_ => ?_) (fun c12_ => ?_)
      · refine (R_iload zf288_100 rfl rfl).trans ?_
        refine (R_iload zf288_102 rfl rfl).trans ?_
        refine (R_icmp_ne (t := 116) zf288_104 rfl rfl).trans ?_
        refine ite_congr rfl (fun c13_ => ?_) (fun c13_ => ?_)
        · refine (R_iinc (ls' := [.inr (.inr (.inl 97)), .inl x0, .inl x1, .inl x2, .inl x3, .inl (wI (x4 + 1)), .inl x5, .inl (wI (x5.tdiv 2)), .inl (x5.tmod 2)]) zf288_116 rfl rfl rfl).trans ?_
          refine (R_iinc (ls' := [.inr (.inr (.inl 97)), .inl x0, .inl x1, .inl x2, .inl x3, .inl (wI (x4 + 1)), .inl (wI (x5 + 1)), .inl (wI (x5.tdiv 2)), .inl (x5.tmod 2)]) zf288_119 rfl rfl rfl).trans ?_
          refine (R_goto (t := 29) zf288_122 rfl).trans ?_
          rfl
        · refine (R_bipush zf288_107 zb_10 rfl).trans ?_
          refine (R_iload zf288_109 rfl rfl).trans ?_
          refine (R_imul zf288_111 rfl).trans ?_
          refine (R_iload zf288_112 rfl rfl).trans ?_
          refine (R_iadd zf288_114 rfl).trans ?_
          exact R_ireturn_i zf288_115 zr_288
      · refine (R_goto (t := 119) zf288_97 rfl).trans ?_
        refine (R_iinc (ls' := [.inr (.inr (.inl 97)), .inl x0, .inl x1, .inl x2, .inl x3, .inl x4, .inl (wI (x5 + 1)), .inl (wI (x5.tdiv 2)), .inl (x5.tmod 2)]) zf288_119 rfl rfl rfl).trans ?_
        refine (R_goto (t := 29) zf288_122 rfl).trans ?_
        rfl
-- CannonPostModel.meantFor(I)I at 0
theorem q291_0 (d : Nat) (x0 : Int) (h : MH) : Run (d + 1) 291 0 [.inr (.inr (.inl 97)), .inl x0, vU, vU, vU] [] h = Run (d + 1) 291 5 [.inr (.inr (.inl 97)), .inl x0, .inr (.inl 0), vU, .inl 0] [] h := by
  refine (R_lconst (v := 0) zf291_0 rfl rfl).trans ?_
  refine (R_lstore_n (ls' := [.inr (.inr (.inl 97)), .inl x0, .inr (.inl 0), vU, vU]) zf291_1 (Nat.le_of_ble_eq_true rfl) rfl rfl).trans ?_
  refine (R_iconst zf291_2 zw_0 rfl).trans ?_
  refine (R_istore (ls' := [.inr (.inr (.inl 97)), .inl x0, .inr (.inl 0), vU, .inl 0]) zf291_3 (Nat.le_of_ble_eq_true rfl) rfl rfl).trans ?_
  rfl
-- CannonPostModel.following()I at 9
theorem q293_9 (d : Nat) (x0 : Int) (x1 : Int) (z2 : MV) (hz2 : cat z2 = 1) (h : MH) : Run (d + 1) 293 9 [.inr (.inr (.inl 97)), .inl x0, .inl x1, z2] [] h = (if (h 97 49) ≤ x1 then Run (d + 1) 293 38 [.inr (.inr (.inl 97)), .inl x0, .inl (-1), .inl 0] [] h else (if 0 ≤ x1 ∧ x1 < 12 then Run (d + 1) 293 9 [.inr (.inr (.inl 97)), .inl (iOr x0 (iShl 1 (h 117 x1.toNat))), .inl (wI (x1 + 1)), z2] [] h else none)) := by
  refine (R_iload_n zf293_9 rfl rfl).trans ?_
  refine (R_aload_n zf293_10 rfl zlt_97 rfl).trans ?_
  refine (R_getI zf293_11 zo_293 zfl_12_306 zk1_97 zft_12_49 rfl).trans ?_
  refine (R_icmp_ge (t := 34) zf293_14 rfl rfl).trans ?_
  refine ite_congr rfl (fun c1_ => ?_) (fun c1_ => ?_)
  · refine (R_iconst zf293_34 zw_m1 rfl).trans ?_
    refine (R_istore_n (ls' := [.inr (.inr (.inl 97)), .inl x0, .inl (-1), z2]) zf293_35 (Nat.le_of_ble_eq_true rfl) rfl rfl).trans ?_
    refine (R_iconst zf293_36 zw_0 rfl).trans ?_
    refine (R_istore_n (ls' := [.inr (.inr (.inl 97)), .inl x0, .inl (-1), .inl 0]) zf293_37 (Nat.le_of_ble_eq_true rfl) rfl rfl).trans ?_
    rfl
  · refine (R_iload_n zf293_17 rfl rfl).trans ?_
    refine (R_iconst zf293_18 zw_1 rfl).trans ?_
    refine (R_aload_n zf293_19 rfl zlt_97 rfl).trans ?_
    refine (R_getR zf293_20 zo_293 zfl_12_86 zk1_97 zft_12_47 zmr_97_47 rfl).trans ?_
    refine (R_iload_n zf293_23 rfl rfl).trans ?_
    refine (R_iald zf293_24 zk_117 rfl).trans ?_
    refine ite_congr rfl (fun c2_ => ?_) (fun _ => rfl)
    refine (R_ishl zf293_25 rfl).trans ?_
    refine (R_ior zf293_26 rfl).trans ?_
    refine (R_istore_n (ls' := [.inr (.inr (.inl 97)), .inl (iOr x0 (iShl 1 (h 117 x1.toNat))), .inl x1, z2]) zf293_27 (Nat.le_of_ble_eq_true rfl) rfl rfl).trans ?_
    refine (R_iinc (ls' := [.inr (.inr (.inl 97)), .inl (iOr x0 (iShl 1 (h 117 x1.toNat))), .inl (wI (x1 + 1)), z2]) zf293_28 rfl rfl rfl).trans ?_
    refine (R_goto (t := 9) zf293_31 rfl).trans ?_
    rfl
-- CannonPostModel.hays(I)I at 39
theorem q295_39 (d : Nat) (x0 : Int) (x1 : Int) (h : MH) : Run (d + 1) 295 39 [.inr (.inr (.inl 97)), .inl x0, .inl x1] [] h = (if 60 < x1 then some (some (.inl (-1)), h) else (cI (Run d 296 0 [.inr (.inr (.inl 97)), .inr (.inr (.inl 111)), vU, vU] [] h) fun a3_ h2_ => (if a3_ < x0 then (cV (Run d 247 0 [.inr (.inr (.inl 97)), .inr (.inr (.inl 111)), vU] [] h2_) fun h5_ => Run (d + 1) 295 39 [.inr (.inr (.inl 97)), .inl x0, .inl (wI (x1 + 1))] [] h5_) else some (some (.inl x1), h2_)))) := by
  refine (R_iload_n zf295_39 rfl rfl).trans ?_
  refine (R_bipush zf295_40 zb_60 rfl).trans ?_
  refine (R_icmp_gt (t := 73) zf295_42 rfl rfl).trans ?_
  refine ite_congr rfl (fun c1_ => ?_) (fun c1_ => ?_)
  · refine (R_iconst zf295_73 zw_m1 rfl).trans ?_
    exact R_ireturn_i zf295_74 zr_295
  · refine (R_aload_n zf295_45 rfl zlt_97 rfl).trans ?_
    refine (R_aload_n zf295_46 rfl zlt_97 rfl).trans ?_
    refine (R_getR zf295_47 zo_295 zfl_12_64 zk1_97 zft_12_33 zmr_97_33 rfl).trans ?_
    refine (R_vcallI zf295_50 zo_295 zvl_12_514 (by rw [zr_296]; rfl) zl_296 (Nat.le_of_ble_eq_true rfl) rfl rfl (Nat.le_of_ble_eq_true rfl) (Nat.le_of_ble_eq_true rfl) (es := [.inr (.inr (.inl 97)), .inr (.inr (.inl 111)), vU, vU]) rfl rfl zk1_97 zo_296).trans ?_
    refine congrArg (cI _) (funext fun a3_ => funext fun h2_ => ?_)
    refine (R_iload_n zf295_53 rfl rfl).trans ?_
    refine (R_icmp_lt (t := 59) zf295_54 rfl rfl).trans ?_
    refine ite_congr rfl (fun c4_ => ?_) (fun c4_ => ?_)
    · refine (R_aload_n zf295_59 rfl zlt_97 rfl).trans ?_
      refine (R_aload_n zf295_60 rfl zlt_97 rfl).trans ?_
      refine (R_getR zf295_61 zo_295 zfl_12_64 zk1_97 zft_12_33 zmr_97_33 rfl).trans ?_
      refine (R_vcallV zf295_64 zo_295 zvl_12_402 zr_247 zl_247 (Nat.le_of_ble_eq_true rfl) rfl rfl (Nat.le_of_ble_eq_true rfl) (Nat.le_of_ble_eq_true rfl) (es := [.inr (.inr (.inl 97)), .inr (.inr (.inl 111)), vU]) rfl rfl zk1_97 zo_247).trans ?_
      refine congrArg (cV _) (funext fun h5_ => ?_)
      refine (R_iinc (ls' := [.inr (.inr (.inl 97)), .inl x0, .inl (wI (x1 + 1))]) zf295_67 rfl rfl rfl).trans ?_
      refine (R_goto (t := 39) zf295_70 rfl).trans ?_
      rfl
    · refine (R_iload_n zf295_57 rfl rfl).trans ?_
      exact R_ireturn_i zf295_58 zr_295
-- CannonPostModel.best(II)I at 40
theorem q297_40 (d : Nat) (z0 : MV) (hz0 : cat z0 = 1) (z1 : MV) (hz1 : cat z1 = 1) (x2 : Int) (x3 : Int) (h : MH) : Run (d + 1) 297 40 [.inr (.inr (.inl 97)), z0, z1, .inl x2, .inl x3] [] h = (if (h 97 26) ≤ x3 then some (some (.inl x2), h) else (if 0 ≤ (wI ((wI (3 * x3)) + 1)) ∧ (wI ((wI (3 * x3)) + 1)) < 24 then (if 0 ≤ (wI ((wI (3 * x2)) + 1)) ∧ (wI ((wI (3 * x2)) + 1)) < 24 then (if (h 104 (wI ((wI (3 * x3)) + 1)).toNat) ≤ (h 104 (wI ((wI (3 * x2)) + 1)).toNat) then Run (d + 1) 297 40 [.inr (.inr (.inl 97)), z0, z1, .inl x2, .inl (wI (x3 + 1))] [] h else Run (d + 1) 297 40 [.inr (.inr (.inl 97)), z0, z1, .inl x3, .inl (wI (x3 + 1))] [] h) else none) else none)) := by
  refine (R_iload zf297_40 rfl rfl).trans ?_
  refine (R_aload_n zf297_42 rfl zlt_97 rfl).trans ?_
  refine (R_getI zf297_43 zo_297 zfl_12_294 zk1_97 zft_12_26 rfl).trans ?_
  refine (R_icmp_ge (t := 86) zf297_46 rfl rfl).trans ?_
  refine ite_congr rfl (fun c1_ => ?_) (fun c1_ => ?_)
  · refine (R_iload_n zf297_86 rfl rfl).trans ?_
    exact R_ireturn_i zf297_87 zr_297
  · refine (R_aload_n zf297_49 rfl zlt_97 rfl).trans ?_
    refine (R_getR zf297_50 zo_297 zfl_12_43 zk1_97 zft_12_20 zmr_97_20 rfl).trans ?_
    refine (R_iconst zf297_53 zw_3 rfl).trans ?_
    refine (R_iload zf297_54 rfl rfl).trans ?_
    refine (R_imul zf297_56 rfl).trans ?_
    refine (R_iconst zf297_57 zw_1 rfl).trans ?_
    refine (R_iadd zf297_58 rfl).trans ?_
    refine (R_iald zf297_59 zk_104 rfl).trans ?_
    refine ite_congr rfl (fun c2_ => ?_) (fun _ => rfl)
    refine (R_aload_n zf297_60 rfl zlt_97 rfl).trans ?_
    refine (R_getR zf297_61 zo_297 zfl_12_43 zk1_97 zft_12_20 zmr_97_20 rfl).trans ?_
    refine (R_iconst zf297_64 zw_3 rfl).trans ?_
    refine (R_iload_n zf297_65 rfl rfl).trans ?_
    refine (R_imul zf297_66 rfl).trans ?_
    refine (R_iconst zf297_67 zw_1 rfl).trans ?_
    refine (R_iadd zf297_68 rfl).trans ?_
    refine (R_iald zf297_69 zk_104 rfl).trans ?_
    refine ite_congr rfl (fun c3_ => ?_) (fun _ => rfl)
    refine (R_icmp_le (t := 78) zf297_70 rfl rfl).trans ?_
    refine ite_congr rfl (fun c4_ => ?_) (fun c4_ => ?_)
    · refine (R_iload_n zf297_78 rfl rfl).trans ?_
      refine (R_istore_n (ls' := [.inr (.inr (.inl 97)), z0, z1, .inl x2, .inl x3]) zf297_79 (Nat.le_of_ble_eq_true rfl) (st1_z rfl hz1 rfl) rfl).trans ?_
      refine (R_iinc (ls' := [.inr (.inr (.inl 97)), z0, z1, .inl x2, .inl (wI (x3 + 1))]) zf297_80 rfl rfl rfl).trans ?_
      refine (R_goto (t := 40) zf297_83 rfl).trans ?_
      rfl
    · refine (R_iload zf297_73 rfl rfl).trans ?_
      refine (R_goto (t := 79) zf297_75 rfl).trans ?_
      refine (R_istore_n (ls' := [.inr (.inr (.inl 97)), z0, z1, .inl x3, .inl x3]) zf297_79 (Nat.le_of_ble_eq_true rfl) (st1_z rfl hz1 rfl) rfl).trans ?_
      refine (R_iinc (ls' := [.inr (.inr (.inl 97)), z0, z1, .inl x3, .inl (wI (x3 + 1))]) zf297_80 rfl rfl rfl).trans ?_
      refine (R_goto (t := 40) zf297_83 rfl).trans ?_
      rfl
-- CannonPostModel.nearest(I)I at 0
theorem q298_0 (d : Nat) (x0 : Int) (h : MH) : Run (d + 1) 298 0 [.inr (.inr (.inl 97)), .inl x0, vU, vU] [] h = Run (d + 1) 298 4 [.inr (.inr (.inl 97)), .inl x0, .inl 0, .inl 1] [] h := by
  refine (R_iconst zf298_0 zw_0 rfl).trans ?_
  refine (R_istore_n (ls' := [.inr (.inr (.inl 97)), .inl x0, .inl 0, vU]) zf298_1 (Nat.le_of_ble_eq_true rfl) rfl rfl).trans ?_
  refine (R_iconst zf298_2 zw_1 rfl).trans ?_
  refine (R_istore_n (ls' := [.inr (.inr (.inl 97)), .inl x0, .inl 0, .inl 1]) zf298_3 (Nat.le_of_ble_eq_true rfl) rfl rfl).trans ?_
  rfl
-- CannonPostModel.free()I at 18
theorem q299_18 (d : Nat) (x0 : Int) (x1 : Int) (h : MH) : Run (d + 1) 299 18 [.inr (.inr (.inl 97)), .inl x0, .inl x1] [] h = (if (h 97 27) ≤ x1 then some (some (.inl x0), h) else (cI (Run d 228 0 [.inr (.inr (.inl 97)), .inr (.inr (.inl 110)), .inl x1] [] h) fun a3_ h2_ => (if a3_ = 0 then Run (d + 1) 299 18 [.inr (.inr (.inl 97)), .inl (iOr x0 0), .inl (wI (x1 + 1))] [] h2_ else Run (d + 1) 299 18 [.inr (.inr (.inl 97)), .inl (iOr x0 (iShl 1 x1)), .inl (wI (x1 + 1))] [] h2_))) := by
  refine (R_iload_n zf299_18 rfl rfl).trans ?_
  refine (R_aload_n zf299_19 rfl zlt_97 rfl).trans ?_
  refine (R_getI zf299_20 zo_299 zfl_12_297 zk1_97 zft_12_27 rfl).trans ?_
  refine (R_icmp_ge (t := 54) zf299_23 rfl rfl).trans ?_
  refine ite_congr rfl (fun c1_ => ?_) (fun c1_ => ?_)
  · refine (R_iload_n zf299_54 rfl rfl).trans ?_
    exact R_ireturn_i zf299_55 zr_299
  · refine (R_iload_n zf299_26 rfl rfl).trans ?_
    refine (R_aload_n zf299_27 rfl zlt_97 rfl).trans ?_
    refine (R_aload_n zf299_28 rfl zlt_97 rfl).trans ?_
    refine (R_getR zf299_29 zo_299 zfl_12_61 zk1_97 zft_12_32 zmr_97_32 rfl).trans ?_
    refine (R_iload_n zf299_32 rfl rfl).trans ?_
    refine (R_vcallI zf299_33 zo_299 zvl_12_342 (by rw [zr_228]; rfl) zl_228 (Nat.le_of_ble_eq_true rfl) rfl rfl (Nat.le_of_ble_eq_true rfl) (Nat.le_of_ble_eq_true rfl) (es := [.inr (.inr (.inl 97)), .inr (.inr (.inl 110)), .inl x1]) rfl rfl zk1_97 zo_228).trans ?_
    refine congrArg (cI _) (funext fun a3_ => funext fun h2_ => ?_)
    refine (R_if_eq (t := 45) zf299_36 rfl rfl).trans ?_
    refine ite_congr rfl (fun c4_ => ?_) (fun c4_ => ?_)
    · refine (R_iconst zf299_45 zw_0 rfl).trans ?_
      refine (R_ior zf299_46 rfl).trans ?_
      refine (R_istore_n (ls' := [.inr (.inr (.inl 97)), .inl (iOr x0 0), .inl x1]) zf299_47 (Nat.le_of_ble_eq_true rfl) rfl rfl).trans ?_
      refine (R_iinc (ls' := [.inr (.inr (.inl 97)), .inl (iOr x0 0), .inl (wI (x1 + 1))]) zf299_48 rfl rfl rfl).trans ?_
      refine (R_goto (t := 18) zf299_51 rfl).trans ?_
      rfl
    · refine (R_iconst zf299_39 zw_1 rfl).trans ?_
      refine (R_iload_n zf299_40 rfl rfl).trans ?_
      refine (R_ishl zf299_41 rfl).trans ?_
      refine (R_goto (t := 46) zf299_42 rfl).trans ?_
      refine (R_ior zf299_46 rfl).trans ?_
      refine (R_istore_n (ls' := [.inr (.inr (.inl 97)), .inl (iOr x0 (iShl 1 x1)), .inl x1]) zf299_47 (Nat.le_of_ble_eq_true rfl) rfl rfl).trans ?_
      refine (R_iinc (ls' := [.inr (.inr (.inl 97)), .inl (iOr x0 (iShl 1 x1)), .inl (wI (x1 + 1))]) zf299_48 rfl rfl rfl).trans ?_
      refine (R_goto (t := 18) zf299_51 rfl).trans ?_
      rfl
-- CannonPostModel.home(I)I at 19
theorem q300_19 (d : Nat) (x0 : Int) (x1 : Int) (x2 : Int) (h : MH) : Run (d + 1) 300 19 [.inr (.inr (.inl 97)), .inl x0, .inl x1, .inl x2] [] h = (if (h 97 27) ≤ x2 then some (some (.inl x1), h) else (cI (Run d 228 0 [.inr (.inr (.inl 97)), .inr (.inr (.inl 110)), .inl x2] [] h) fun a3_ h2_ => (if a3_ = 0 then Run (d + 1) 300 19 [.inr (.inr (.inl 97)), .inl x0, .inl (iOr x1 0), .inl (wI (x2 + 1))] [] h2_ else (cI (Run d 217 0 [.inl x2] [] h2_) fun a6_ h5_ => (if 0 ≤ a6_ ∧ a6_ < 277 then (if ¬ (h5_ 110 a6_.toNat) = x0 then Run (d + 1) 300 19 [.inr (.inr (.inl 97)), .inl x0, .inl (iOr x1 0), .inl (wI (x2 + 1))] [] h5_ else Run (d + 1) 300 19 [.inr (.inr (.inl 97)), .inl x0, .inl (iOr x1 (iShl 1 x2)), .inl (wI (x2 + 1))] [] h5_) else none))))) := by
  refine (R_iload_n zf300_19 rfl rfl).trans ?_
  refine (R_aload_n zf300_20 rfl zlt_97 rfl).trans ?_
  refine (R_getI zf300_21 zo_300 zfl_12_297 zk1_97 zft_12_27 rfl).trans ?_
  refine (R_icmp_ge (t := 68) zf300_24 rfl rfl).trans ?_
  refine ite_congr rfl (fun c1_ => ?_) (fun c1_ => ?_)
  · refine (R_iload_n zf300_68 rfl rfl).trans ?_
    exact R_ireturn_i zf300_69 zr_300
  · refine (R_iload_n zf300_27 rfl rfl).trans ?_
    refine (R_aload_n zf300_28 rfl zlt_97 rfl).trans ?_
    refine (R_aload_n zf300_29 rfl zlt_97 rfl).trans ?_
    refine (R_getR zf300_30 zo_300 zfl_12_61 zk1_97 zft_12_32 zmr_97_32 rfl).trans ?_
    refine (R_iload_n zf300_33 rfl rfl).trans ?_
    refine (R_vcallI zf300_34 zo_300 zvl_12_342 (by rw [zr_228]; rfl) zl_228 (Nat.le_of_ble_eq_true rfl) rfl rfl (Nat.le_of_ble_eq_true rfl) (Nat.le_of_ble_eq_true rfl) (es := [.inr (.inr (.inl 97)), .inr (.inr (.inl 110)), .inl x2]) rfl rfl zk1_97 zo_228).trans ?_
    refine congrArg (cI _) (funext fun a3_ => funext fun h2_ => ?_)
    refine (R_if_eq (t := 59) zf300_37 rfl rfl).trans ?_
    refine ite_congr rfl (fun c4_ => ?_) (fun c4_ => ?_)
    · refine (R_iconst zf300_59 zw_0 rfl).trans ?_
      refine (R_ior zf300_60 rfl).trans ?_
      refine (R_istore_n (ls' := [.inr (.inr (.inl 97)), .inl x0, .inl (iOr x1 0), .inl x2]) zf300_61 (Nat.le_of_ble_eq_true rfl) rfl rfl).trans ?_
      refine (R_iinc (ls' := [.inr (.inr (.inl 97)), .inl x0, .inl (iOr x1 0), .inl (wI (x2 + 1))]) zf300_62 rfl rfl rfl).trans ?_
      refine (R_goto (t := 19) zf300_65 rfl).trans ?_
      rfl
    · refine (R_aload_n zf300_40 rfl zlt_97 rfl).trans ?_
      refine (R_getR zf300_41 zo_300 zfl_12_61 zk1_97 zft_12_32 zmr_97_32 rfl).trans ?_
      refine (R_iload_n zf300_44 rfl rfl).trans ?_
      refine (R_callI zf300_45 zo_300 zsl_12_300 (by rw [zr_217]; rfl) zl_217 (Nat.le_of_ble_eq_true rfl) rfl rfl (Nat.le_of_ble_eq_true rfl) (Nat.le_of_ble_eq_true rfl) (es := [.inl x2]) rfl rfl).trans ?_
      refine congrArg (cI _) (funext fun a6_ => funext fun h5_ => ?_)
      refine (R_iald zf300_48 zk_110 rfl).trans ?_
      refine ite_congr rfl (fun c7_ => ?_) (fun _ => rfl)
      refine (R_iload_n zf300_49 rfl rfl).trans ?_
      refine (R_icmp_ne (t := 59) zf300_50 rfl rfl).trans ?_
      refine ite_congr rfl (fun c8_ => ?_) (fun c8_ => ?_)
      · refine (R_iconst zf300_59 zw_0 rfl).trans ?_
        refine (R_ior zf300_60 rfl).trans ?_
        refine (R_istore_n (ls' := [.inr (.inr (.inl 97)), .inl x0, .inl (iOr x1 0), .inl x2]) zf300_61 (Nat.le_of_ble_eq_true rfl) rfl rfl).trans ?_
        refine (R_iinc (ls' := [.inr (.inr (.inl 97)), .inl x0, .inl (iOr x1 0), .inl (wI (x2 + 1))]) zf300_62 rfl rfl rfl).trans ?_
        refine (R_goto (t := 19) zf300_65 rfl).trans ?_
        rfl
      · refine (R_iconst zf300_53 zw_1 rfl).trans ?_
        refine (R_iload_n zf300_54 rfl rfl).trans ?_
        refine (R_ishl zf300_55 rfl).trans ?_
        refine (R_goto (t := 60) zf300_56 rfl).trans ?_
        refine (R_ior zf300_60 rfl).trans ?_
        refine (R_istore_n (ls' := [.inr (.inr (.inl 97)), .inl x0, .inl (iOr x1 (iShl 1 x2)), .inl x2]) zf300_61 (Nat.le_of_ble_eq_true rfl) rfl rfl).trans ?_
        refine (R_iinc (ls' := [.inr (.inr (.inl 97)), .inl x0, .inl (iOr x1 (iShl 1 x2)), .inl (wI (x2 + 1))]) zf300_62 rfl rfl rfl).trans ?_
        refine (R_goto (t := 19) zf300_65 rfl).trans ?_
        rfl
-- CannonPostModel.gusts(IIIII)I at 62
theorem q302_62 (d : Nat) (x0 : Int) (x1 : Int) (x2 : Int) (x3 : Int) (x4 : Int) (z5 : MV) (hz5 : cat z5 = 1) (z6 : MV) (hz6 : cat z6 = 1) (y7 : Int) (h : MH) : Run (d + 1) 302 62 [.inr (.inr (.inl 97)), .inl x0, .inl x1, .inl x2, .inl x3, .inl x4, z5, z6] [.inl y7] h = (cI (Run d 232 0 [.inr (.inr (.inl 97)), .inl x0, .inl x1, .inl x2, .inl x3, .inl (wI ((h 110 32) + 3)), .inl (h 110 33), .inl (h 110 34), vU] [] h) fun a2_ h1_ => (cI (Run d 235 0 [.inr (.inr (.inl 97)), .inl a2_, vU] [] h1_) fun a4_ h3_ => (if ¬ a4_ = (-1) then some (some (.inl (wI (y7 + x4))), h3_) else some (some (.inl (wI (y7 + 0))), h3_)))) := by
  refine (R_istore (ls' := [.inr (.inr (.inl 97)), .inl x0, .inl x1, .inl x2, .inl x3, .inl x4, .inl y7, z6]) zf302_62 (Nat.le_of_ble_eq_true rfl) rfl rfl).trans ?_
  refine (R_aload_n zf302_64 rfl zlt_97 rfl).trans ?_
  refine (R_aload_n zf302_65 rfl zlt_97 rfl).trans ?_
  refine (R_iload_n zf302_66 rfl rfl).trans ?_
  refine (R_iload_n zf302_67 rfl rfl).trans ?_
  refine (R_iload_n zf302_68 rfl rfl).trans ?_
  refine (R_iload zf302_69 rfl rfl).trans ?_
  refine (R_aload_n zf302_71 rfl zlt_97 rfl).trans ?_
  refine (R_getR zf302_72 zo_302 zfl_12_61 zk1_97 zft_12_32 zmr_97_32 rfl).trans ?_
  refine (R_bipush zf302_75 zb_32 rfl).trans ?_
  refine (R_ialdc zf302_77 zk_110 (by decide) rfl rfl).trans ?_
  refine (R_iconst zf302_78 zw_3 rfl).trans ?_
  refine (R_iadd zf302_79 rfl).trans ?_
  refine (R_aload_n zf302_80 rfl zlt_97 rfl).trans ?_
  refine (R_getR zf302_81 zo_302 zfl_12_61 zk1_97 zft_12_32 zmr_97_32 rfl).trans ?_
  refine (R_bipush zf302_84 zb_33 rfl).trans ?_
  refine (R_ialdc zf302_86 zk_110 (by decide) rfl rfl).trans ?_
  refine (R_aload_n zf302_87 rfl zlt_97 rfl).trans ?_
  refine (R_getR zf302_88 zo_302 zfl_12_61 zk1_97 zft_12_32 zmr_97_32 rfl).trans ?_
  refine (R_bipush zf302_91 zb_34 rfl).trans ?_
  refine (R_ialdc zf302_93 zk_110 (by decide) rfl rfl).trans ?_
  refine (R_vcallI zf302_94 zo_302 zvl_12_329 (by rw [zr_232]; rfl) zl_232 (Nat.le_of_ble_eq_true rfl) rfl rfl (Nat.le_of_ble_eq_true rfl) (Nat.le_of_ble_eq_true rfl) (es := [.inr (.inr (.inl 97)), .inl x0, .inl x1, .inl x2, .inl x3, .inl (wI ((h 110 32) + 3)), .inl (h 110 33), .inl (h 110 34), vU]) rfl rfl zk1_97 zo_232).trans ?_
  refine congrArg (cI _) (funext fun a2_ => funext fun h1_ => ?_)
  refine (R_vcallI zf302_97 zo_302 zvl_12_352 (by rw [zr_235]; rfl) zl_235 (Nat.le_of_ble_eq_true rfl) rfl rfl (Nat.le_of_ble_eq_true rfl) (Nat.le_of_ble_eq_true rfl) (es := [.inr (.inr (.inl 97)), .inl a2_, vU]) rfl rfl zk1_97 zo_235).trans ?_
  refine congrArg (cI _) (funext fun a4_ => funext fun h3_ => ?_)
  refine (R_iconst zf302_100 zw_m1 rfl).trans ?_
  refine (R_icmp_ne (t := 108) zf302_101 rfl rfl).trans ?_
  refine ite_congr rfl (fun c5_ => ?_) (fun c5_ => ?_)
  · refine (R_iload zf302_108 rfl rfl).trans ?_
    refine (R_istore (ls' := [.inr (.inr (.inl 97)), .inl x0, .inl x1, .inl x2, .inl x3, .inl x4, .inl y7, .inl x4]) zf302_110 (Nat.le_of_ble_eq_true rfl) rfl rfl).trans ?_
    refine (R_iload zf302_112 rfl rfl).trans ?_
    refine (R_iload zf302_114 rfl rfl).trans ?_
    refine (R_iadd zf302_116 rfl).trans ?_
    exact R_ireturn_i zf302_117 zr_302
  · refine (R_iconst zf302_104 zw_0 rfl).trans ?_
    refine (R_goto (t := 110) zf302_105 rfl).trans ?_
    refine (R_istore (ls' := [.inr (.inr (.inl 97)), .inl x0, .inl x1, .inl x2, .inl x3, .inl x4, .inl y7, .inl 0]) zf302_110 (Nat.le_of_ble_eq_true rfl) rfl rfl).trans ?_
    refine (R_iload zf302_112 rfl rfl).trans ?_
    refine (R_iload zf302_114 rfl rfl).trans ?_
    refine (R_iadd zf302_116 rfl).trans ?_
    exact R_ireturn_i zf302_117 zr_302
-- CannonPostModel.isFree([II)Z at 0
theorem q228_0 (d : Nat) (x0 : Int) (h : MH) : Run (d + 1) 228 0 [.inr (.inr (.inl 97)), .inr (.inr (.inl 110)), .inl x0] [] h = (cI (Run d 222 0 [.inr (.inr (.inl 97)), .inl x0] [] h) fun a2_ h1_ => (if a2_ = 0 then some (some (.inl 0), h1_) else (cI (Run d 217 0 [.inl x0] [] h1_) fun a5_ h4_ => (if 0 ≤ (wI (a5_ + 2)) ∧ (wI (a5_ + 2)) < 277 then (if ¬ (h4_ 110 (wI (a5_ + 2)).toNat) = 0 then some (some (.inl 0), h4_) else some (some (.inl 1), h4_)) else none)))) := by
  refine (R_aload_n zf228_0 rfl zlt_97 rfl).trans ?_
  refine (R_iload_n zf228_1 rfl rfl).trans ?_
  refine (R_vcallI zf228_2 zo_228 zvl_12_339 (by rw [zr_222]; rfl) zl_222 (Nat.le_of_ble_eq_true rfl) rfl rfl (Nat.le_of_ble_eq_true rfl) (Nat.le_of_ble_eq_true rfl) (es := [.inr (.inr (.inl 97)), .inl x0]) rfl rfl zk1_97 zo_222).trans ?_
  refine congrArg (cI _) (funext fun a2_ => funext fun h1_ => ?_)
  refine (R_if_eq (t := 23) zf228_5 rfl rfl).trans ?_
  refine ite_congr rfl (fun c3_ => ?_) (fun c3_ => ?_)
  · refine (R_iconst zf228_23 zw_0 rfl).trans ?_
    exact R_ireturn zf228_24 (by rw [zr_228]; rfl)
  · refine (R_aload_n zf228_8 rfl zlt_110 rfl).trans ?_
    refine (R_iload_n zf228_9 rfl rfl).trans ?_
    refine (R_callI zf228_10 zo_228 zsl_12_300 (by rw [zr_217]; rfl) zl_217 (Nat.le_of_ble_eq_true rfl) rfl rfl (Nat.le_of_ble_eq_true rfl) (Nat.le_of_ble_eq_true rfl) (es := [.inl x0]) rfl rfl).trans ?_
    refine congrArg (cI _) (funext fun a5_ => funext fun h4_ => ?_)
    refine (R_iconst zf228_13 zw_2 rfl).trans ?_
    refine (R_iadd zf228_14 rfl).trans ?_
    refine (R_iald zf228_15 zk_110 rfl).trans ?_
    refine ite_congr rfl (fun c6_ => ?_) (fun _ => rfl)
    refine (R_if_ne (t := 23) zf228_16 rfl rfl).trans ?_
    refine ite_congr rfl (fun c7_ => ?_) (fun c7_ => ?_)
    · refine (R_iconst zf228_23 zw_0 rfl).trans ?_
      exact R_ireturn zf228_24 (by rw [zr_228]; rfl)
    · refine (R_iconst zf228_19 zw_1 rfl).trans ?_
      refine (R_goto (t := 24) zf228_20 rfl).trans ?_
      exact R_ireturn zf228_24 (by rw [zr_228]; rfl)
-- CannonPostModel.told(II)I at 0
theorem q223_0 (d : Nat) (x0 : Int) (x1 : Int) (h : MH) : Run d 223 0 [.inr (.inr (.inl 97)), .inl x0, .inl x1] [] h = (if 0 ≤ (wI ((wI (3 * x0)) + x1)) ∧ (wI ((wI (3 * x0)) + x1)) < 15 then some (some (.inl (h 106 (wI ((wI (3 * x0)) + x1)).toNat)), h) else none) := by
  refine (R_aload_n zf223_0 rfl zlt_97 rfl).trans ?_
  refine (R_getR zf223_1 zo_223 zfl_12_49 zk1_97 zft_12_22 zmr_97_22 rfl).trans ?_
  refine (R_iconst zf223_4 zw_3 rfl).trans ?_
  refine (R_iload_n zf223_5 rfl rfl).trans ?_
  refine (R_imul zf223_6 rfl).trans ?_
  refine (R_iload_n zf223_7 rfl rfl).trans ?_
  refine (R_iadd zf223_8 rfl).trans ?_
  refine (R_iald zf223_9 zk_106 rfl).trans ?_
  refine ite_congr rfl (fun c1_ => ?_) (fun _ => rfl)
  exact R_ireturn_i zf223_10 zr_223
-- CannonPostModel.copy([I[I)V at 0
theorem q256_0_1 (d : Nat) (h : MH) : Run d 256 0 [.inr (.inr (.inl 110)), .inr (.inr (.inl 119)), vU, vU] [] h = Run d 256 12 [.inr (.inr (.inl 110)), .inr (.inr (.inl 119)), .inl (wI (37 + (wI (4 * (h 110 36))))), .inl 0] [] h := by
  refine (R_bipush zf256_0 zb_37 rfl).trans ?_
  refine (R_iconst zf256_2 zw_4 rfl).trans ?_
  refine (R_aload_n zf256_3 rfl zlt_110 rfl).trans ?_
  refine (R_bipush zf256_4 zb_36 rfl).trans ?_
  refine (R_ialdc zf256_6 zk_110 (by decide) rfl rfl).trans ?_
  refine (R_imul zf256_7 rfl).trans ?_
  refine (R_iadd zf256_8 rfl).trans ?_
  refine (R_istore_n (ls' := [.inr (.inr (.inl 110)), .inr (.inr (.inl 119)), .inl (wI (37 + (wI (4 * (h 110 36))))), vU]) zf256_9 (Nat.le_of_ble_eq_true rfl) rfl rfl).trans ?_
  refine (R_iconst zf256_10 zw_0 rfl).trans ?_
  refine (R_istore_n (ls' := [.inr (.inr (.inl 110)), .inr (.inr (.inl 119)), .inl (wI (37 + (wI (4 * (h 110 36))))), .inl 0]) zf256_11 (Nat.le_of_ble_eq_true rfl) rfl rfl).trans ?_
  rfl
-- CannonPostModel.copy([I[I)V at 0
theorem q256_0_2 (d : Nat) (h : MH) : Run d 256 0 [.inr (.inr (.inl 119)), .inr (.inr (.inl 110)), vU, vU] [] h = Run d 256 12 [.inr (.inr (.inl 119)), .inr (.inr (.inl 110)), .inl (wI (37 + (wI (4 * (h 119 36))))), .inl 0] [] h := by
  refine (R_bipush zf256_0 zb_37 rfl).trans ?_
  refine (R_iconst zf256_2 zw_4 rfl).trans ?_
  refine (R_aload_n zf256_3 rfl zlt_119 rfl).trans ?_
  refine (R_bipush zf256_4 zb_36 rfl).trans ?_
  refine (R_ialdc zf256_6 zk_119 (by decide) rfl rfl).trans ?_
  refine (R_imul zf256_7 rfl).trans ?_
  refine (R_iadd zf256_8 rfl).trans ?_
  refine (R_istore_n (ls' := [.inr (.inr (.inl 119)), .inr (.inr (.inl 110)), .inl (wI (37 + (wI (4 * (h 119 36))))), vU]) zf256_9 (Nat.le_of_ble_eq_true rfl) rfl rfl).trans ?_
  refine (R_iconst zf256_10 zw_0 rfl).trans ?_
  refine (R_istore_n (ls' := [.inr (.inr (.inl 119)), .inr (.inr (.inl 110)), .inl (wI (37 + (wI (4 * (h 119 36))))), .inl 0]) zf256_11 (Nat.le_of_ble_eq_true rfl) rfl rfl).trans ?_
  rfl
-- CannonPostModel.count(I)I at 120
theorem q306_120 (d : Nat) (z0 : MV) (hz0 : cat z0 = 1) (x1 : Int) (x2 : Int) (h : MH) : Run (d + 1) 306 120 [.inr (.inr (.inl 97)), z0, .inl x1, .inl x2] [] h = (if (h 97 26) ≤ x2 then some (some (.inl x1), h) else (if 0 ≤ (wI (0 + x2)) ∧ (wI (0 + x2)) < 277 then Run (d + 1) 306 120 [.inr (.inr (.inl 97)), z0, .inl (wI (x1 + (h 110 (wI (0 + x2)).toNat))), .inl (wI (x2 + 1))] [] h else none)) := by
  refine (R_iload_n zf306_120 rfl rfl).trans ?_
  refine (R_aload_n zf306_121 rfl zlt_97 rfl).trans ?_
  refine (R_getI zf306_122 zo_306 zfl_12_294 zk1_97 zft_12_26 rfl).trans ?_
  refine (R_icmp_ge (t := 145) zf306_125 rfl rfl).trans ?_
  refine ite_congr rfl (fun c1_ => ?_) (fun c1_ => ?_)
  · refine (R_iload_n zf306_145 rfl rfl).trans ?_
    exact R_ireturn_i zf306_146 zr_306
  · refine (R_iload_n zf306_128 rfl rfl).trans ?_
    refine (R_aload_n zf306_129 rfl zlt_97 rfl).trans ?_
    refine (R_getR zf306_130 zo_306 zfl_12_61 zk1_97 zft_12_32 zmr_97_32 rfl).trans ?_
    refine (R_iconst zf306_133 zw_0 rfl).trans ?_
    refine (R_iload_n zf306_134 rfl rfl).trans ?_
    refine (R_iadd zf306_135 rfl).trans ?_
    refine (R_iald zf306_136 zk_110 rfl).trans ?_
    refine ite_congr rfl (fun c2_ => ?_) (fun _ => rfl)
    refine (R_iadd zf306_137 rfl).trans ?_
    refine (R_istore_n (ls' := [.inr (.inr (.inl 97)), z0, .inl (wI (x1 + (h 110 (wI (0 + x2)).toNat))), .inl x2]) zf306_138 (Nat.le_of_ble_eq_true rfl) (st1_z rfl hz0 rfl) rfl).trans ?_
    refine (R_iinc (ls' := [.inr (.inr (.inl 97)), z0, .inl (wI (x1 + (h 110 (wI (0 + x2)).toNat))), .inl (wI (x2 + 1))]) zf306_139 rfl rfl rfl).trans ?_
    refine (R_goto (t := 120) zf306_142 rfl).trans ?_
    rfl
-- CannonPostModel.count(I)I at 149
theorem q306_149 (d : Nat) (z0 : MV) (hz0 : cat z0 = 1) (x1 : Int) (x2 : Int) (h : MH) : Run (d + 1) 306 149 [.inr (.inr (.inl 97)), z0, .inl x1, .inl x2] [] h = (if (h 97 27) ≤ x2 then some (some (.inl x1), h) else (cI (Run d 217 0 [.inl x2] [] h) fun a3_ h2_ => (if 0 ≤ (wI (a3_ + 1)) ∧ (wI (a3_ + 1)) < 277 then Run (d + 1) 306 149 [.inr (.inr (.inl 97)), z0, .inl (wI (x1 + (h2_ 110 (wI (a3_ + 1)).toNat))), .inl (wI (x2 + 1))] [] h2_ else none))) := by
  refine (R_iload_n zf306_149 rfl rfl).trans ?_
  refine (R_aload_n zf306_150 rfl zlt_97 rfl).trans ?_
  refine (R_getI zf306_151 zo_306 zfl_12_297 zk1_97 zft_12_27 rfl).trans ?_
  refine (R_icmp_ge (t := 177) zf306_154 rfl rfl).trans ?_
  refine ite_congr rfl (fun c1_ => ?_) (fun c1_ => ?_)
  · refine (R_iload_n zf306_177 rfl rfl).trans ?_
    exact R_ireturn_i zf306_178 zr_306
  · refine (R_iload_n zf306_157 rfl rfl).trans ?_
    refine (R_aload_n zf306_158 rfl zlt_97 rfl).trans ?_
    refine (R_getR zf306_159 zo_306 zfl_12_61 zk1_97 zft_12_32 zmr_97_32 rfl).trans ?_
    refine (R_iload_n zf306_162 rfl rfl).trans ?_
    refine (R_callI zf306_163 zo_306 zsl_12_300 (by rw [zr_217]; rfl) zl_217 (Nat.le_of_ble_eq_true rfl) rfl rfl (Nat.le_of_ble_eq_true rfl) (Nat.le_of_ble_eq_true rfl) (es := [.inl x2]) rfl rfl).trans ?_
    refine congrArg (cI _) (funext fun a3_ => funext fun h2_ => ?_)
    refine (R_iconst zf306_166 zw_1 rfl).trans ?_
    refine (R_iadd zf306_167 rfl).trans ?_
    refine (R_iald zf306_168 zk_110 rfl).trans ?_
    refine ite_congr rfl (fun c4_ => ?_) (fun _ => rfl)
    refine (R_iadd zf306_169 rfl).trans ?_
    refine (R_istore_n (ls' := [.inr (.inr (.inl 97)), z0, .inl (wI (x1 + (h2_ 110 (wI (a3_ + 1)).toNat))), .inl x2]) zf306_170 (Nat.le_of_ble_eq_true rfl) (st1_z rfl hz0 rfl) rfl).trans ?_
    refine (R_iinc (ls' := [.inr (.inr (.inl 97)), z0, .inl (wI (x1 + (h2_ 110 (wI (a3_ + 1)).toNat))), .inl (wI (x2 + 1))]) zf306_171 rfl rfl rfl).trans ?_
    refine (R_goto (t := 149) zf306_174 rfl).trans ?_
    rfl
-- CannonPost$Tape.bytesIn(I)I at 5
theorem q1_5 (d : Nat) (x0 : Int) (x1 : Int) (x2 : Int) (h : MH) : Run d 1 5 [.inl x0, .inl x1, .inl x2] [] h = (if x2 < 0 then some (some (.inl x1), h) else (if (iAnd (iUshr x0 x2) 255) = 0 then Run d 1 5 [.inl x0, .inl (wI (x1 + 0)), .inl (wI (x2 + (-8)))] [] h else Run d 1 5 [.inl x0, .inl (wI (x1 + 1)), .inl (wI (x2 + (-8)))] [] h)) := by
  refine (R_iload_n zf1_5 rfl rfl).trans ?_
  refine (R_if_lt (t := 33) zf1_6 rfl rfl).trans ?_
  refine ite_congr rfl (fun c1_ => ?_) (fun c1_ => ?_)
  · refine (R_iload_n zf1_33 rfl rfl).trans ?_
    exact R_ireturn_i zf1_34 zr_1
  · refine (R_iload_n zf1_9 rfl rfl).trans ?_
    refine (R_iload_n zf1_10 rfl rfl).trans ?_
    refine (R_iload_n zf1_11 rfl rfl).trans ?_
    refine (R_iushr zf1_12 rfl).trans ?_
    refine (R_sipush zf1_13 zs_255 rfl).trans ?_
    refine (R_iand zf1_16 rfl).trans ?_
    refine (R_if_eq (t := 24) zf1_17 rfl rfl).trans ?_
    refine ite_congr rfl (fun c2_ => ?_) (fun c2_ => ?_)
    · refine (R_iconst zf1_24 zw_0 rfl).trans ?_
      refine (R_iadd zf1_25 rfl).trans ?_
      refine (R_istore_n (ls' := [.inl x0, .inl (wI (x1 + 0)), .inl x2]) zf1_26 (Nat.le_of_ble_eq_true rfl) rfl rfl).trans ?_
      refine (R_iinc (ls' := [.inl x0, .inl (wI (x1 + 0)), .inl (wI (x2 + (-8)))]) zf1_27 rfl rfl rfl).trans ?_
      refine (R_goto (t := 5) zf1_30 rfl).trans ?_
      rfl
    · refine (R_iconst zf1_20 zw_1 rfl).trans ?_
      refine (R_goto (t := 25) zf1_21 rfl).trans ?_
      refine (R_iadd zf1_25 rfl).trans ?_
      refine (R_istore_n (ls' := [.inl x0, .inl (wI (x1 + 1)), .inl x2]) zf1_26 (Nat.le_of_ble_eq_true rfl) rfl rfl).trans ?_
      refine (R_iinc (ls' := [.inl x0, .inl (wI (x1 + 1)), .inl (wI (x2 + (-8)))]) zf1_27 rfl rfl rfl).trans ?_
      refine (R_goto (t := 5) zf1_30 rfl).trans ?_
      rfl
-- CannonPost$Tape.put(I)V at 3
theorem q2_3 (d : Nat) (x0 : Int) (x1 : Int) (z2 : MV) (hz2 : cat z2 = 1) (h : MH) : Run d 2 3 [.inr (.inr (.inl 1)), .inl x0, .inl x1, z2] [] h = (if x1 < 0 then some (none, h) else (if (toB (iUshr x0 x1)) = 0 then Run d 2 3 [.inr (.inr (.inl 1)), .inl x0, .inl (wI (x1 + (-8))), .inl (toB (iUshr x0 x1))] [] h else (if 240 ≤ (h 1 1) then Run d 2 3 [.inr (.inr (.inl 1)), .inl x0, .inl (wI (x1 + (-8))), .inl (toB (iUshr x0 x1))] [] h else (if 0 ≤ (h 1 1) ∧ (h 1 1) < 240 then Run d 2 3 [.inr (.inr (.inl 1)), .inl x0, .inl (wI (x1 + (-8))), .inl (toB (iUshr x0 x1))] [] (up (up h 15 (h 1 1).toNat (toB (toB (iUshr x0 x1)))) 1 1 (wI (((up h 15 (h 1 1).toNat (toB (toB (iUshr x0 x1)))) 1 1) + 1))) else none)))) := by
  refine (R_iload_n zf2_3 rfl rfl).trans ?_
  refine (R_if_lt (t := 52) zf2_4 rfl rfl).trans ?_
  refine ite_congr rfl (fun c1_ => ?_) (fun c1_ => ?_)
  · exact R_return zf2_52 zr_2
  · refine (R_iload_n zf2_7 rfl rfl).trans ?_
    refine (R_iload_n zf2_8 rfl rfl).trans ?_
    refine (R_iushr zf2_9 rfl).trans ?_
    refine (R_i2b zf2_10 rfl).trans ?_
    refine (R_istore_n (ls' := [.inr (.inr (.inl 1)), .inl x0, .inl x1, .inl (toB (iUshr x0 x1))]) zf2_11 (Nat.le_of_ble_eq_true rfl) rfl rfl).trans ?_
    refine (R_iload_n zf2_12 rfl rfl).trans ?_
    refine (R_if_eq (t := 46) zf2_13 rfl rfl).trans ?_
    refine ite_congr rfl (fun c2_ => ?_) (fun c2_ => ?_)
    · refine (R_iinc (ls' := [.inr (.inr (.inl 1)), .inl x0, .inl (wI (x1 + (-8))), .inl (toB (iUshr x0 x1))]) zf2_46 rfl rfl rfl).trans ?_
      refine (R_goto (t := 3) zf2_49 rfl).trans ?_
      rfl
    · refine (R_aload_n zf2_16 rfl zlt_1 rfl).trans ?_
      refine (R_getI zf2_17 zo_2 zfl_10_15 zk1_1 zft_10_1 rfl).trans ?_
      refine (R_sipush zf2_20 zs_240 rfl).trans ?_
      refine (R_icmp_ge (t := 46) zf2_23 rfl rfl).trans ?_
      refine ite_congr rfl (fun c3_ => ?_) (fun c3_ => ?_)
      · refine (R_iinc (ls' := [.inr (.inr (.inl 1)), .inl x0, .inl (wI (x1 + (-8))), .inl (toB (iUshr x0 x1))]) zf2_46 rfl rfl rfl).trans ?_
        refine (R_goto (t := 3) zf2_49 rfl).trans ?_
        rfl
      · refine (R_aload_n zf2_26 rfl zlt_1 rfl).trans ?_
        refine (R_getR zf2_27 zo_2 zfl_10_11 zk1_1 zft_10_0 zmr_1_0 rfl).trans ?_
        refine (R_aload_n zf2_30 rfl zlt_1 rfl).trans ?_
        refine (R_getI zf2_31 zo_2 zfl_10_15 zk1_1 zft_10_1 rfl).trans ?_
        refine (R_iload_n zf2_34 rfl rfl).trans ?_
        refine (R_bast zf2_35 zk_15 rfl).trans ?_
        refine ite_congr rfl (fun c4_ => ?_) (fun _ => rfl)
        refine (R_aload_n zf2_36 rfl zlt_1 rfl).trans ?_
        refine (R_dup zf2_37 rfl rfl).trans ?_
        refine (R_getI zf2_38 zo_2 zfl_10_15 zk1_1 zft_10_1 rfl).trans ?_
        refine (R_iconst zf2_41 zw_1 rfl).trans ?_
        refine (R_iadd zf2_42 rfl).trans ?_
        refine (R_putI zf2_43 zo_2 zfl_10_15 zk1_1 zft_10_1 rfl).trans ?_
        refine (R_iinc (ls' := [.inr (.inr (.inl 1)), .inl x0, .inl (wI (x1 + (-8))), .inl (toB (iUshr x0 x1))]) zf2_46 rfl rfl rfl).trans ?_
        refine (R_goto (t := 3) zf2_49 rfl).trans ?_
        rfl
-- CannonPost$LeagueReader.readClauses()Z at 0
theorem q6_0 (d : Nat) (h : MH) : Run (d + 1) 6 0 [.inr (.inr (.inl 3)), vU] [] h = Run (d + 1) 6 39 [.inr (.inr (.inl 3)), .inl 0] [] (cpy (up (up (up h 3 2 0) 4 3 0) 4 4 0) (ro 121) 19 0 0 4) := by
  refine (R_aload_n zf6_0 rfl zlt_3 rfl).trans ?_
  refine (R_iconst zf6_1 zw_0 rfl).trans ?_
  refine (R_putZ zf6_2 zo_6 zfl_6_32 zk1_3 zft_6_2 rfl rfl).trans ?_
  refine (R_aload_n zf6_5 rfl zlt_3 rfl).trans ?_
  refine (R_getR zf6_6 zo_6 zfl_6_12 zk1_3 zft_6_0 zmr_3_0 rfl).trans ?_
  refine (R_iconst zf6_9 zw_0 rfl).trans ?_
  refine (R_putI zf6_10 zo_6 zfl_6_36 zk1_4 zft_5_3 rfl).trans ?_
  refine (R_aload_n zf6_13 rfl zlt_3 rfl).trans ?_
  refine (R_getR zf6_14 zo_6 zfl_6_12 zk1_3 zft_6_0 zmr_3_0 rfl).trans ?_
  refine (R_iconst zf6_17 zw_0 rfl).trans ?_
  refine (R_putI zf6_18 zo_6 zfl_6_39 zk1_4 zft_5_4 rfl).trans ?_
  refine (R_getsR zf6_21 zo_6 zgl_6_42 rfl).trans ?_
  refine (R_iconst zf6_24 zw_0 rfl).trans ?_
  refine (R_aload_n zf6_25 rfl zlt_3 rfl).trans ?_
  refine (R_getR zf6_26 zo_6 zfl_6_12 zk1_3 zft_6_0 zmr_3_0 rfl).trans ?_
  refine (R_getR zf6_29 zo_6 zfl_6_46 zk1_4 zft_5_0 zmr_4_0 rfl).trans ?_
  refine (R_iconst zf6_32 zw_0 rfl).trans ?_
  refine (R_iconst zf6_33 zw_4 rfl).trans ?_
  refine ((R_acpyR zf6_34 zo_6 zsl_6_49 zal_6_49 zk_121 zk_19 (Nat.le_of_ble_eq_true rfl) rfl).trans (if_pos (by decide))).trans ?_
  refine (R_iconst zf6_37 zw_0 rfl).trans ?_
  refine (R_istore_n (ls' := [.inr (.inr (.inl 3)), .inl 0]) zf6_38 (Nat.le_of_ble_eq_true rfl) rfl rfl).trans ?_
  rfl
-- CannonPost$LawReader.readTape()I at 15
theorem q22_15 (d : Nat) (x0 : Int) (h : MH) : Run (d + 1) 22 15 [.inr (.inr (.inl 5)), .inl x0] [] h = (if 240 < x0 then some (some (.inl (h 1 2)), h) else (cI (Run d 23 0 [.inr (.inr (.inl 5)), vU, vU, vU] [] h) fun a3_ h2_ => (if ¬ a3_ = 0 then (cI (Run d 8 0 [.inr (.inr (.inl 1))] [] h2_) fun a6_ h5_ => (if ¬ a6_ = 0 then (cI (Run d 21 0 [.inr (.inr (.inl 1)), .inl 59] [] h5_) fun a9_ h8_ => (if ¬ a9_ = 0 then Run (d + 1) 22 15 [.inr (.inr (.inl 5)), .inl (wI (x0 + 1))] [] h8_ else some (some (.inl (h8_ 1 2)), h8_))) else some (some (.inl (-1)), h5_))) else some (some (.inl (h2_ 1 2)), h2_)))) := by
  refine (R_iload_n zf22_15 rfl rfl).trans ?_
  refine (R_sipush zf22_16 zs_240 rfl).trans ?_
  refine (R_icmp_gt (t := 75) zf22_19 rfl rfl).trans ?_
  refine ite_congr rfl (fun c1_ => ?_) (fun c1_ => ?_)
  · refine (R_aload_n zf22_75 rfl zlt_5 rfl).trans ?_
    refine (R_getR zf22_76 zo_22 zfl_3_17 zk1_5 zft_3_2 zmr_5_2 rfl).trans ?_
    refine (R_getI zf22_79 zo_22 zfl_3_21 zk1_1 zft_10_2 rfl).trans ?_
    exact R_ireturn_i zf22_82 zr_22
  · refine (R_aload_n zf22_22 rfl zlt_5 rfl).trans ?_
    refine (R_vcallI zf22_23 zo_22 zvl_3_28 (by rw [zr_23]; rfl) zl_23 (Nat.le_of_ble_eq_true rfl) rfl rfl (Nat.le_of_ble_eq_true rfl) (Nat.le_of_ble_eq_true rfl) (es := [.inr (.inr (.inl 5)), vU, vU, vU]) rfl rfl zk1_5 zo_23).trans ?_
    refine congrArg (cI _) (funext fun a3_ => funext fun h2_ => ?_)
    refine (R_if_ne (t := 37) zf22_26 rfl rfl).trans ?_
    refine ite_congr rfl (fun c4_ => ?_) (fun c4_ => ?_)
    · refine (R_aload_n zf22_37 rfl zlt_5 rfl).trans ?_
      refine (R_getR zf22_38 zo_22 zfl_3_17 zk1_5 zft_3_2 zmr_5_2 rfl).trans ?_
      refine (R_vcallI zf22_41 zo_22 zvl_3_32 (by rw [zr_8]; rfl) zl_8 (Nat.le_of_ble_eq_true rfl) rfl rfl (Nat.le_of_ble_eq_true rfl) (Nat.le_of_ble_eq_true rfl) (es := [.inr (.inr (.inl 1))]) rfl rfl zk1_1 zo_8).trans ?_
      refine congrArg (cI _) (funext fun a6_ => funext fun h5_ => ?_)
      refine (R_if_ne (t := 49) zf22_44 rfl rfl).trans ?_
      refine ite_congr rfl (fun c7_ => ?_) (fun c7_ => ?_)
      · refine (R_aload_n zf22_49 rfl zlt_5 rfl).trans ?_
        refine (R_getR zf22_50 zo_22 zfl_3_17 zk1_5 zft_3_2 zmr_5_2 rfl).trans ?_
        refine (R_bipush zf22_53 zb_59 rfl).trans ?_
        refine (R_vcallI zf22_55 zo_22 zvl_3_36 (by rw [zr_21]; rfl) zl_21 (Nat.le_of_ble_eq_true rfl) rfl rfl (Nat.le_of_ble_eq_true rfl) (Nat.le_of_ble_eq_true rfl) (es := [.inr (.inr (.inl 1)), .inl 59]) rfl rfl zk1_1 zo_21).trans ?_
        refine congrArg (cI _) (funext fun a9_ => funext fun h8_ => ?_)
        refine (R_if_ne (t := 69) zf22_58 rfl rfl).trans ?_
        refine ite_congr rfl (fun c10_ => ?_) (fun c10_ => ?_)
        · refine (R_iinc (ls' := [.inr (.inr (.inl 5)), .inl (wI (x0 + 1))]) zf22_69 rfl rfl rfl).trans ?_
          refine (R_goto (t := 15) zf22_72 rfl).trans ?_
          rfl
        · refine (R_aload_n zf22_61 rfl zlt_5 rfl).trans ?_
          refine (R_getR zf22_62 zo_22 zfl_3_17 zk1_5 zft_3_2 zmr_5_2 rfl).trans ?_
          refine (R_getI zf22_65 zo_22 zfl_3_21 zk1_1 zft_10_2 rfl).trans ?_
          exact R_ireturn_i zf22_68 zr_22
      · refine (R_iconst zf22_47 zw_m1 rfl).trans ?_
        exact R_ireturn_i zf22_48 zr_22
    · refine (R_aload_n zf22_29 rfl zlt_5 rfl).trans ?_
      refine (R_getR zf22_30 zo_22 zfl_3_17 zk1_5 zft_3_2 zmr_5_2 rfl).trans ?_
      refine (R_getI zf22_33 zo_22 zfl_3_21 zk1_1 zft_10_2 rfl).trans ?_
      exact R_ireturn_i zf22_36 zr_22
-- CannonPost$Planbook.readTape()I at 10
theorem q38_10 (d : Nat) (x0 : Int) (h : MH) : Run (d + 1) 38 10 [.inr (.inr (.inl 7)), .inl x0] [] h = (if 16 ≤ x0 then some (some (.inl (h 1 2)), h) else (cI (Run d 39 0 [.inr (.inr (.inl 7)), .inl (wI (x0 * 4))] [] h) fun a3_ h2_ => (if ¬ a3_ = 0 then (cI (Run d 8 0 [.inr (.inr (.inl 1))] [] (up h2_ 7 4 (wI (x0 + 1)))) fun a6_ h5_ => (if ¬ a6_ = 0 then (if (h5_ 7 4) = 16 then some (some (.inl (h5_ 1 2)), h5_) else (cI (Run d 21 0 [.inr (.inr (.inl 1)), .inl 59] [] h5_) fun a10_ h9_ => (if ¬ a10_ = 0 then Run (d + 1) 38 10 [.inr (.inr (.inl 7)), .inl (wI (x0 + 1))] [] h9_ else some (some (.inl (h9_ 1 2)), h9_)))) else some (some (.inl (-1)), h5_))) else some (some (.inl (h2_ 1 2)), h2_)))) := by
  refine (R_iload_n zf38_10 rfl rfl).trans ?_
  refine (R_bipush zf38_11 zb_16 rfl).trans ?_
  refine (R_icmp_ge (t := 88) zf38_13 rfl rfl).trans ?_
  refine ite_congr rfl (fun c1_ => ?_) (fun c1_ => ?_)
  · refine (R_aload_n zf38_88 rfl zlt_7 rfl).trans ?_
    refine (R_getR zf38_89 zo_38 zfl_8_23 zk1_7 zft_8_5 zmr_7_5 rfl).trans ?_
    refine (R_getI zf38_92 zo_38 zfl_8_44 zk1_1 zft_10_2 rfl).trans ?_
    exact R_ireturn_i zf38_95 zr_38
  · refine (R_aload_n zf38_16 rfl zlt_7 rfl).trans ?_
    refine (R_iload_n zf38_17 rfl rfl).trans ?_
    refine (R_iconst zf38_18 zw_4 rfl).trans ?_
    refine (R_imul zf38_19 rfl).trans ?_
    refine (R_vcallI zf38_20 zo_38 zvl_8_49 (by rw [zr_39]; rfl) zl_39 (Nat.le_of_ble_eq_true rfl) rfl rfl (Nat.le_of_ble_eq_true rfl) (Nat.le_of_ble_eq_true rfl) (es := [.inr (.inr (.inl 7)), .inl (wI (x0 * 4))]) rfl rfl zk1_7 zo_39).trans ?_
    refine congrArg (cI _) (funext fun a3_ => funext fun h2_ => ?_)
    refine (R_if_ne (t := 34) zf38_23 rfl rfl).trans ?_
    refine ite_congr rfl (fun c4_ => ?_) (fun c4_ => ?_)
    · refine (R_aload_n zf38_34 rfl zlt_7 rfl).trans ?_
      refine (R_iload_n zf38_35 rfl rfl).trans ?_
      refine (R_iconst zf38_36 zw_1 rfl).trans ?_
      refine (R_iadd zf38_37 rfl).trans ?_
      refine (R_putI zf38_38 zo_38 zfl_8_41 zk1_7 zft_8_4 rfl).trans ?_
      refine (R_aload_n zf38_41 rfl zlt_7 rfl).trans ?_
      refine (R_getR zf38_42 zo_38 zfl_8_23 zk1_7 zft_8_5 zmr_7_5 rfl).trans ?_
      refine (R_vcallI zf38_45 zo_38 zvl_8_53 (by rw [zr_8]; rfl) zl_8 (Nat.le_of_ble_eq_true rfl) rfl rfl (Nat.le_of_ble_eq_true rfl) (Nat.le_of_ble_eq_true rfl) (es := [.inr (.inr (.inl 1))]) rfl rfl zk1_1 zo_8).trans ?_
      refine congrArg (cI _) (funext fun a6_ => funext fun h5_ => ?_)
      refine (R_if_ne (t := 53) zf38_48 rfl rfl).trans ?_
      refine ite_congr rfl (fun c7_ => ?_) (fun c7_ => ?_)
      · refine (R_aload_n zf38_53 rfl zlt_7 rfl).trans ?_
        refine (R_getI zf38_54 zo_38 zfl_8_41 zk1_7 zft_8_4 rfl).trans ?_
        refine (R_bipush zf38_57 zb_16 rfl).trans ?_
        refine (R_icmp_eq (t := 74) zf38_59 rfl rfl).trans ?_
        refine ite_congr rfl (fun c8_ => ?_) (fun c8_ => ?_)
        · refine (R_aload_n zf38_74 rfl zlt_7 rfl).trans ?_
          refine (R_getR zf38_75 zo_38 zfl_8_23 zk1_7 zft_8_5 zmr_7_5 rfl).trans ?_
          refine (R_getI zf38_78 zo_38 zfl_8_44 zk1_1 zft_10_2 rfl).trans ?_
          exact R_ireturn_i zf38_81 zr_38
        · refine (R_aload_n zf38_62 rfl zlt_7 rfl).trans ?_
          refine (R_getR zf38_63 zo_38 zfl_8_23 zk1_7 zft_8_5 zmr_7_5 rfl).trans ?_
          refine (R_bipush zf38_66 zb_59 rfl).trans ?_
          refine (R_vcallI zf38_68 zo_38 zvl_8_57 (by rw [zr_21]; rfl) zl_21 (Nat.le_of_ble_eq_true rfl) rfl rfl (Nat.le_of_ble_eq_true rfl) (Nat.le_of_ble_eq_true rfl) (es := [.inr (.inr (.inl 1)), .inl 59]) rfl rfl zk1_1 zo_21).trans ?_
          refine congrArg (cI _) (funext fun a10_ => funext fun h9_ => ?_)
          refine (R_if_ne (t := 82) zf38_71 rfl rfl).trans ?_
          refine ite_congr rfl (fun c11_ => ?_) (fun c11_ => ?_)
          · refine (R_iinc (ls' := [.inr (.inr (.inl 7)), .inl (wI (x0 + 1))]) zf38_82 rfl rfl rfl).trans ?_
            refine (R_goto (t := 10) zf38_85 rfl).trans ?_
            rfl
          · refine (R_aload_n zf38_74 rfl zlt_7 rfl).trans ?_
            refine (R_getR zf38_75 zo_38 zfl_8_23 zk1_7 zft_8_5 zmr_7_5 rfl).trans ?_
            refine (R_getI zf38_78 zo_38 zfl_8_44 zk1_1 zft_10_2 rfl).trans ?_
            exact R_ireturn_i zf38_81 zr_38
      · refine (R_iconst zf38_51 zw_m1 rfl).trans ?_
        exact R_ireturn_i zf38_52 zr_38
    · refine (R_aload_n zf38_26 rfl zlt_7 rfl).trans ?_
      refine (R_getR zf38_27 zo_38 zfl_8_23 zk1_7 zft_8_5 zmr_7_5 rfl).trans ?_
      refine (R_getI zf38_30 zo_38 zfl_8_44 zk1_1 zft_10_2 rfl).trans ?_
      exact R_ireturn_i zf38_33 zr_38
-- CannonPost.text(I)I at 83
theorem q44_83 (d : Nat) (x0 : Int) (h : MH) : Run (d + 1) 44 83 [.inr (.inr (.inl 0)), .inl x0] [] h = (if ¬ x0 = 2 then some (some (.inl (-1)), h) else (cI (Run d 58 0 [.inr (.inr (.inl 7))] [] h) fun a3_ h2_ => (if a3_ = 0 then some (some (.inl (-1)), h2_) else (cI (Run d 38 0 [.inr (.inr (.inl 7)), vU] [] h2_) fun a6_ h5_ => (if ¬ a6_ = (-1) then some (some (.inl (-1)), h5_) else (cI (Run d 59 0 [.inr (.inr (.inl 7))] [] (up h5_ 1 1 0)) fun a9_ h8_ => some (some (.inl a9_), h8_))))))) := by
  refine (R_iload_n zf44_83 rfl rfl).trans ?_
  refine (R_iconst zf44_84 zw_2 rfl).trans ?_
  refine (R_icmp_ne (t := 125) zf44_85 rfl rfl).trans ?_
  refine ite_congr rfl (fun c1_ => ?_) (fun c1_ => ?_)
  · refine (R_iconst zf44_125 zw_m1 rfl).trans ?_
    exact R_ireturn_i zf44_126 zr_44
  · refine (R_aload_n zf44_88 rfl zlt_0 rfl).trans ?_
    refine (R_getR zf44_89 zo_44 zfl_11_49 zk1_0 zft_11_5 zmr_0_5 rfl).trans ?_
    refine (R_vcallI zf44_92 zo_44 zvl_11_137 (by rw [zr_58]; rfl) zl_58 (Nat.le_of_ble_eq_true rfl) rfl rfl (Nat.le_of_ble_eq_true rfl) (Nat.le_of_ble_eq_true rfl) (es := [.inr (.inr (.inl 7))]) rfl rfl zk1_7 zo_58).trans ?_
    refine congrArg (cI _) (funext fun a3_ => funext fun h2_ => ?_)
    refine (R_if_eq (t := 125) zf44_95 rfl rfl).trans ?_
    refine ite_congr rfl (fun c4_ => ?_) (fun c4_ => ?_)
    · refine (R_iconst zf44_125 zw_m1 rfl).trans ?_
      exact R_ireturn_i zf44_126 zr_44
    · refine (R_aload_n zf44_98 rfl zlt_0 rfl).trans ?_
      refine (R_getR zf44_99 zo_44 zfl_11_49 zk1_0 zft_11_5 zmr_0_5 rfl).trans ?_
      refine (R_vcallI zf44_102 zo_44 zvl_11_115 (by rw [zr_38]; rfl) zl_38 (Nat.le_of_ble_eq_true rfl) rfl rfl (Nat.le_of_ble_eq_true rfl) (Nat.le_of_ble_eq_true rfl) (es := [.inr (.inr (.inl 7)), vU]) rfl rfl zk1_7 zo_38).trans ?_
      refine congrArg (cI _) (funext fun a6_ => funext fun h5_ => ?_)
      refine (R_iconst zf44_105 zw_m1 rfl).trans ?_
      refine (R_icmp_ne (t := 125) zf44_106 rfl rfl).trans ?_
      refine ite_congr rfl (fun c7_ => ?_) (fun c7_ => ?_)
      · refine (R_iconst zf44_125 zw_m1 rfl).trans ?_
        exact R_ireturn_i zf44_126 zr_44
      · refine (R_aload_n zf44_109 rfl zlt_0 rfl).trans ?_
        refine (R_getR zf44_110 zo_44 zfl_11_10 zk1_0 zft_11_0 zmr_0_0 rfl).trans ?_
        refine (R_iconst zf44_113 zw_0 rfl).trans ?_
        refine (R_putI zf44_114 zo_44 zfl_11_102 zk1_1 zft_10_1 rfl).trans ?_
        refine (R_aload_n zf44_117 rfl zlt_0 rfl).trans ?_
        refine (R_getR zf44_118 zo_44 zfl_11_49 zk1_0 zft_11_5 zmr_0_5 rfl).trans ?_
        refine (R_vcallI zf44_121 zo_44 zvl_11_138 (by rw [zr_59]; rfl) zl_59 (Nat.le_of_ble_eq_true rfl) rfl rfl (Nat.le_of_ble_eq_true rfl) (Nat.le_of_ble_eq_true rfl) (es := [.inr (.inr (.inl 7))]) rfl rfl zk1_7 zo_59).trans ?_
        refine congrArg (cI _) (funext fun a9_ => funext fun h8_ => ?_)
        exact R_ireturn_i zf44_124 zr_44
-- CannonPost$Lawbook.hasRoom()Z at 0
theorem q56_0 (d : Nat) (h : MH) : Run d 56 0 [.inr (.inr (.inl 6))] [] h = (if 4 ≤ (h 6 1) then some (some (.inl 0), h) else some (some (.inl 1), h)) := by
  refine (R_aload_n zf56_0 rfl zlt_6 rfl).trans ?_
  refine (R_getI zf56_1 zo_56 zfl_4_32 zk1_6 zft_4_1 rfl).trans ?_
  refine (R_iconst zf56_4 zw_4 rfl).trans ?_
  refine (R_icmp_ge (t := 12) zf56_5 rfl rfl).trans ?_
  refine ite_congr rfl (fun c1_ => ?_) (fun c1_ => ?_)
  · refine (R_iconst zf56_12 zw_0 rfl).trans ?_
    exact R_ireturn zf56_13 (by rw [zr_56]; rfl)
  · refine (R_iconst zf56_8 zw_1 rfl).trans ?_
    refine (R_goto (t := 13) zf56_9 rfl).trans ?_
    exact R_ireturn zf56_13 (by rw [zr_56]; rfl)
-- CannonPost$Lawbook.add([II)I at 0
theorem q57_0 (d : Nat) (x0 : Int) (h : MH) : Run (d + 1) 57 0 [.inr (.inr (.inl 6)), .inr (.inr (.inl 22)), .inl x0] [] h = (cI (Run d 56 0 [.inr (.inr (.inl 6))] [] h) fun a2_ h1_ => (if a2_ = 0 then some (some (.inl (-1)), h1_) else (if x0 ≤ 240 then (if 0 ≤ (h1_ 6 1) ∧ (h1_ 6 1) < 4 then (if (0 : Int) ≤ x0 ∧ (0 : Int) ≤ 0 ∧ (0 : Int) ≤ 0 ∧ (0 + x0 : Int) ≤ 240 ∧ (0 + x0 : Int) ≤ 240 then (if 0 ≤ ((cpy h1_ (h1_ 22) (25 + (h1_ 6 1).toNat) 0 0 x0.toNat) 6 1) ∧ ((cpy h1_ (h1_ 22) (25 + (h1_ 6 1).toNat) 0 0 x0.toNat) 6 1) < 4 then some (some (.inl (wI (((up (up (cpy h1_ (h1_ 22) (25 + (h1_ 6 1).toNat) 0 0 x0.toNat) 29 ((cpy h1_ (h1_ 22) (25 + (h1_ 6 1).toNat) 0 0 x0.toNat) 6 1).toNat x0) 6 1 (wI (((up (cpy h1_ (h1_ 22) (25 + (h1_ 6 1).toNat) 0 0 x0.toNat) 29 ((cpy h1_ (h1_ 22) (25 + (h1_ 6 1).toNat) 0 0 x0.toNat) 6 1).toNat x0) 6 1) + 1))) 6 1) - 1))), (up (up (cpy h1_ (h1_ 22) (25 + (h1_ 6 1).toNat) 0 0 x0.toNat) 29 ((cpy h1_ (h1_ 22) (25 + (h1_ 6 1).toNat) 0 0 x0.toNat) 6 1).toNat x0) 6 1 (wI (((up (cpy h1_ (h1_ 22) (25 + (h1_ 6 1).toNat) 0 0 x0.toNat) 29 ((cpy h1_ (h1_ 22) (25 + (h1_ 6 1).toNat) 0 0 x0.toNat) 6 1).toNat x0) 6 1) + 1)))) else none) else none) else none) else some (some (.inl (-1)), h1_)))) := by
  refine (R_aload_n zf57_0 rfl zlt_6 rfl).trans ?_
  refine (R_vcallI zf57_1 zo_57 zvl_4_35 (by rw [zr_56]; rfl) zl_56 (Nat.le_of_ble_eq_true rfl) rfl rfl (Nat.le_of_ble_eq_true rfl) (Nat.le_of_ble_eq_true rfl) (es := [.inr (.inr (.inl 6))]) rfl rfl zk1_6 zo_56).trans ?_
  refine congrArg (cI _) (funext fun a2_ => funext fun h1_ => ?_)
  refine (R_if_eq (t := 14) zf57_4 rfl rfl).trans ?_
  refine ite_congr rfl (fun c3_ => ?_) (fun c3_ => ?_)
  · refine (R_iconst zf57_14 zw_m1 rfl).trans ?_
    exact R_ireturn_i zf57_15 zr_57
  · refine (R_iload_n zf57_7 rfl rfl).trans ?_
    refine (R_sipush zf57_8 zs_240 rfl).trans ?_
    refine (R_icmp_le (t := 16) zf57_11 rfl rfl).trans ?_
    refine ite_congr rfl (fun c4_ => ?_) (fun c4_ => ?_)
    · refine (R_aload_n zf57_16 rfl zlt_22 rfl).trans ?_
      refine (R_iconst zf57_17 zw_0 rfl).trans ?_
      refine (R_aload_n zf57_18 rfl zlt_6 rfl).trans ?_
      refine (R_getR zf57_19 zo_57 zfl_4_23 zk1_6 zft_4_3 zmr_6_3 rfl).trans ?_
      refine (R_aload_n zf57_22 rfl zlt_6 rfl).trans ?_
      refine (R_getI zf57_23 zo_57 zfl_4_32 zk1_6 zft_4_1 rfl).trans ?_
      refine (R_aald zf57_26 zk_24 zmr_24_0 rfl).trans ?_
      refine ite_congr rfl (fun c5_ => ?_) (fun _ => rfl)
      refine (R_iconst zf57_27 zw_0 rfl).trans ?_
      refine (R_iload_n zf57_28 rfl rfl).trans ?_
      refine (R_acpy zf57_29 zo_57 zsl_4_39 zal_4_39 zk_22 (zgrid_25 _ (by omega)) (Nat.le_of_ble_eq_true rfl) rfl).trans ?_
      refine ite_congr rfl (fun c6_ => ?_) (fun _ => rfl)
      refine (R_aload_n zf57_32 rfl zlt_6 rfl).trans ?_
      refine (R_getR zf57_33 zo_57 zfl_4_26 zk1_6 zft_4_4 zmr_6_4 rfl).trans ?_
      refine (R_aload_n zf57_36 rfl zlt_6 rfl).trans ?_
      refine (R_getI zf57_37 zo_57 zfl_4_32 zk1_6 zft_4_1 rfl).trans ?_
      refine (R_iload_n zf57_40 rfl rfl).trans ?_
      refine (R_iast zf57_41 zk_29 rfl).trans ?_
      refine ite_congr rfl (fun c7_ => ?_) (fun _ => rfl)
      refine (R_aload_n zf57_42 rfl zlt_6 rfl).trans ?_
      refine (R_dup zf57_43 rfl rfl).trans ?_
      refine (R_getI zf57_44 zo_57 zfl_4_32 zk1_6 zft_4_1 rfl).trans ?_
      refine (R_iconst zf57_47 zw_1 rfl).trans ?_
      refine (R_iadd zf57_48 rfl).trans ?_
      refine (R_putI zf57_49 zo_57 zfl_4_32 zk1_6 zft_4_1 rfl).trans ?_
      refine (R_aload_n zf57_52 rfl zlt_6 rfl).trans ?_
      refine (R_getI zf57_53 zo_57 zfl_4_32 zk1_6 zft_4_1 rfl).trans ?_
      refine (R_iconst zf57_56 zw_1 rfl).trans ?_
      refine (R_isub zf57_57 rfl).trans ?_
      exact R_ireturn_i zf57_58 zr_57
    · refine (R_iconst zf57_14 zw_m1 rfl).trans ?_
      exact R_ireturn_i zf57_15 zr_57
-- CannonPost$League.copyFrom(LCannonPost$League;)V at 0
theorem q46_0 (d : Nat) (h : MH) : Run d 46 0 [.inr (.inr (.inl 2)), .inr (.inr (.inl 4))] [] h = some (none, (up (up (cpy (cpy (cpy h (h 19) 16 0 0 4) ((cpy h (h 19) 16 0 0 4) 20) 17 0 0 24) ((cpy (cpy h (h 19) 16 0 0 4) ((cpy h (h 19) 16 0 0 4) 20) 17 0 0 24) 21) 18 0 0 15) 2 3 ((cpy (cpy (cpy h (h 19) 16 0 0 4) ((cpy h (h 19) 16 0 0 4) 20) 17 0 0 24) ((cpy (cpy h (h 19) 16 0 0 4) ((cpy h (h 19) 16 0 0 4) 20) 17 0 0 24) 21) 18 0 0 15) 4 3)) 2 4 ((up (cpy (cpy (cpy h (h 19) 16 0 0 4) ((cpy h (h 19) 16 0 0 4) 20) 17 0 0 24) ((cpy (cpy h (h 19) 16 0 0 4) ((cpy h (h 19) 16 0 0 4) 20) 17 0 0 24) 21) 18 0 0 15) 2 3 ((cpy (cpy (cpy h (h 19) 16 0 0 4) ((cpy h (h 19) 16 0 0 4) 20) 17 0 0 24) ((cpy (cpy h (h 19) 16 0 0 4) ((cpy h (h 19) 16 0 0 4) 20) 17 0 0 24) 21) 18 0 0 15) 4 3)) 4 4))) := by
  refine (R_aload_n zf46_0 rfl zlt_4 rfl).trans ?_
  refine (R_getR zf46_1 zo_46 zfl_5_11 zk1_4 zft_5_0 zmr_4_0 rfl).trans ?_
  refine (R_iconst zf46_4 zw_0 rfl).trans ?_
  refine (R_aload_n zf46_5 rfl zlt_2 rfl).trans ?_
  refine (R_getR zf46_6 zo_46 zfl_5_11 zk1_2 zft_5_0 zmr_2_0 rfl).trans ?_
  refine (R_iconst zf46_9 zw_0 rfl).trans ?_
  refine (R_aload_n zf46_10 rfl zlt_2 rfl).trans ?_
  refine (R_getR zf46_11 zo_46 zfl_5_11 zk1_2 zft_5_0 zmr_2_0 rfl).trans ?_
  refine (R_len100 (v := 4) zf46_14 zk_16 rfl rfl).trans ?_
  refine ((R_acpy zf46_15 zo_46 zsl_5_21 zal_5_21 zk_19 zk_16 (Nat.le_of_ble_eq_true rfl) rfl).trans (if_pos (by decide))).trans ?_
  refine (R_aload_n zf46_18 rfl zlt_4 rfl).trans ?_
  refine (R_getR zf46_19 zo_46 zfl_5_15 zk1_4 zft_5_1 zmr_4_1 rfl).trans ?_
  refine (R_iconst zf46_22 zw_0 rfl).trans ?_
  refine (R_aload_n zf46_23 rfl zlt_2 rfl).trans ?_
  refine (R_getR zf46_24 zo_46 zfl_5_15 zk1_2 zft_5_1 zmr_2_1 rfl).trans ?_
  refine (R_iconst zf46_27 zw_0 rfl).trans ?_
  refine (R_aload_n zf46_28 rfl zlt_2 rfl).trans ?_
  refine (R_getR zf46_29 zo_46 zfl_5_15 zk1_2 zft_5_1 zmr_2_1 rfl).trans ?_
  refine (R_len100 (v := 24) zf46_32 zk_17 rfl rfl).trans ?_
  refine ((R_acpy zf46_33 zo_46 zsl_5_21 zal_5_21 zk_20 zk_17 (Nat.le_of_ble_eq_true rfl) rfl).trans (if_pos (by decide))).trans ?_
  refine (R_aload_n zf46_36 rfl zlt_4 rfl).trans ?_
  refine (R_getR zf46_37 zo_46 zfl_5_18 zk1_4 zft_5_2 zmr_4_2 rfl).trans ?_
  refine (R_iconst zf46_40 zw_0 rfl).trans ?_
  refine (R_aload_n zf46_41 rfl zlt_2 rfl).trans ?_
  refine (R_getR zf46_42 zo_46 zfl_5_18 zk1_2 zft_5_2 zmr_2_2 rfl).trans ?_
  refine (R_iconst zf46_45 zw_0 rfl).trans ?_
  refine (R_aload_n zf46_46 rfl zlt_2 rfl).trans ?_
  refine (R_getR zf46_47 zo_46 zfl_5_18 zk1_2 zft_5_2 zmr_2_2 rfl).trans ?_
  refine (R_len100 (v := 15) zf46_50 zk_18 rfl rfl).trans ?_
  refine ((R_acpy zf46_51 zo_46 zsl_5_21 zal_5_21 zk_21 zk_18 (Nat.le_of_ble_eq_true rfl) rfl).trans (if_pos (by decide))).trans ?_
  refine (R_aload_n zf46_54 rfl zlt_2 rfl).trans ?_
  refine (R_aload_n zf46_55 rfl zlt_4 rfl).trans ?_
  refine (R_getI zf46_56 zo_46 zfl_5_27 zk1_4 zft_5_3 rfl).trans ?_
  refine (R_putI zf46_59 zo_46 zfl_5_27 zk1_2 zft_5_3 rfl).trans ?_
  refine (R_aload_n zf46_62 rfl zlt_2 rfl).trans ?_
  refine (R_aload_n zf46_63 rfl zlt_4 rfl).trans ?_
  refine (R_getI zf46_64 zo_46 zfl_5_31 zk1_4 zft_5_4 rfl).trans ?_
  refine (R_putI zf46_67 zo_46 zfl_5_31 zk1_2 zft_5_4 rfl).trans ?_
  exact R_return zf46_70 zr_46
-- CannonPost$State.begin(LCannonPost$League;)V at 0
theorem q47_0 (d : Nat) (h : MH) : Run (d + 1) 47 0 [.inr (.inr (.inl 12)), .inr (.inr (.inl 2)), vU] [] h = (cV (Run d 48 0 [.inr (.inr (.inl 91)), .inl 0, vU, vU] [] h) fun h1_ => (cI (Run d 49 0 [.inr (.inr (.inl 2))] [] h1_) fun a3_ h2_ => (cI (Run d 50 0 [.inr (.inr (.inl 2))] [] (up h2_ 91 0 a3_)) fun a5_ h4_ => (cI (Run d 51 0 [.inr (.inr (.inl 2))] [] (up h4_ 91 1 a5_)) fun a7_ h6_ => Run (d + 1) 47 40 [.inr (.inr (.inl 12)), .inr (.inr (.inl 2)), .inl 0] [] (up h6_ 91 2 a7_))))) := by
  refine (R_aload_n zf47_0 rfl zlt_12 rfl).trans ?_
  refine (R_getR zf47_1 zo_47 zfl_9_15 zk1_12 zft_9_0 zmr_12_0 rfl).trans ?_
  refine (R_iconst zf47_4 zw_0 rfl).trans ?_
  refine (R_callV zf47_5 zo_47 zsl_9_22 zr_48 zl_48 (Nat.le_of_ble_eq_true rfl) rfl rfl (Nat.le_of_ble_eq_true rfl) (Nat.le_of_ble_eq_true rfl) (es := [.inr (.inr (.inl 91)), .inl 0, vU, vU]) rfl rfl).trans ?_
  refine congrArg (cV _) (funext fun h1_ => ?_)
  refine (R_aload_n zf47_8 rfl zlt_12 rfl).trans ?_
  refine (R_getR zf47_9 zo_47 zfl_9_15 zk1_12 zft_9_0 zmr_12_0 rfl).trans ?_
  refine (R_iconst zf47_12 zw_0 rfl).trans ?_
  refine (R_aload_n zf47_13 rfl zlt_2 rfl).trans ?_
  refine (R_vcallI zf47_14 zo_47 zvl_9_28 (by rw [zr_49]; rfl) zl_49 (Nat.le_of_ble_eq_true rfl) rfl rfl (Nat.le_of_ble_eq_true rfl) (Nat.le_of_ble_eq_true rfl) (es := [.inr (.inr (.inl 2))]) rfl rfl zk1_2 zo_49).trans ?_
  refine congrArg (cI _) (funext fun a3_ => funext fun h2_ => ?_)
  refine (R_iastc zf47_17 zk_91 (by decide) rfl rfl).trans ?_
  refine (R_aload_n zf47_18 rfl zlt_12 rfl).trans ?_
  refine (R_getR zf47_19 zo_47 zfl_9_15 zk1_12 zft_9_0 zmr_12_0 rfl).trans ?_
  refine (R_iconst zf47_22 zw_1 rfl).trans ?_
  refine (R_aload_n zf47_23 rfl zlt_2 rfl).trans ?_
  refine (R_vcallI zf47_24 zo_47 zvl_9_32 (by rw [zr_50]; rfl) zl_50 (Nat.le_of_ble_eq_true rfl) rfl rfl (Nat.le_of_ble_eq_true rfl) (Nat.le_of_ble_eq_true rfl) (es := [.inr (.inr (.inl 2))]) rfl rfl zk1_2 zo_50).trans ?_
  refine congrArg (cI _) (funext fun a5_ => funext fun h4_ => ?_)
  refine (R_iastc zf47_27 zk_91 (by decide) rfl rfl).trans ?_
  refine (R_aload_n zf47_28 rfl zlt_12 rfl).trans ?_
  refine (R_getR zf47_29 zo_47 zfl_9_15 zk1_12 zft_9_0 zmr_12_0 rfl).trans ?_
  refine (R_iconst zf47_32 zw_2 rfl).trans ?_
  refine (R_aload_n zf47_33 rfl zlt_2 rfl).trans ?_
  refine (R_vcallI zf47_34 zo_47 zvl_9_35 (by rw [zr_51]; rfl) zl_51 (Nat.le_of_ble_eq_true rfl) rfl rfl (Nat.le_of_ble_eq_true rfl) (Nat.le_of_ble_eq_true rfl) (es := [.inr (.inr (.inl 2))]) rfl rfl zk1_2 zo_51).trans ?_
  refine congrArg (cI _) (funext fun a7_ => funext fun h6_ => ?_)
  refine (R_iastc zf47_37 zk_91 (by decide) rfl rfl).trans ?_
  refine (R_iconst zf47_38 zw_0 rfl).trans ?_
  refine (R_istore_n (ls' := [.inr (.inr (.inl 12)), .inr (.inr (.inl 2)), .inl 0]) zf47_39 (Nat.le_of_ble_eq_true rfl) rfl rfl).trans ?_
  rfl
-- CannonPost$Guesses.forget()V at 0
theorem q54_0 (d : Nat) (h : MH) : Run d 54 0 [.inr (.inr (.inl 10))] [] h = some (none, (up (up h 10 2 0) 10 3 0)) := by
  refine (R_aload_n zf54_0 rfl zlt_10 rfl).trans ?_
  refine (R_iconst zf54_1 zw_0 rfl).trans ?_
  refine (R_putI zf54_2 zo_54 zfl_1_38 zk1_10 zft_1_2 rfl).trans ?_
  refine (R_aload_n zf54_5 rfl zlt_10 rfl).trans ?_
  refine (R_iconst zf54_6 zw_0 rfl).trans ?_
  refine (R_putI zf54_7 zo_54 zfl_1_42 zk1_10 zft_1_3 rfl).trans ?_
  exact R_return zf54_10 zr_54
-- CannonPost$Flight.forget()V at 0
theorem q55_0 (d : Nat) (h : MH) : Run (d + 1) 55 0 [.inr (.inr (.inl 8))] [] h = (cV (Run d 48 0 [.inr (.inr (.inl 39)), .inl 0, vU, vU] [] h) fun h1_ => some (none, h1_)) := by
  refine (R_aload_n zf55_0 rfl zlt_8 rfl).trans ?_
  refine (R_getR zf55_1 zo_55 zfl_0_17 zk1_8 zft_0_3 zmr_8_3 rfl).trans ?_
  refine (R_iconst zf55_4 zw_0 rfl).trans ?_
  refine (R_callV zf55_5 zo_55 zsl_0_28 zr_48 zl_48 (Nat.le_of_ble_eq_true rfl) rfl rfl (Nat.le_of_ble_eq_true rfl) (Nat.le_of_ble_eq_true rfl) (es := [.inr (.inr (.inl 39)), .inl 0, vU, vU]) rfl rfl).trans ?_
  refine congrArg (cV _) (funext fun h1_ => ?_)
  exact R_return zf55_8 zr_55
-- CannonPost$State.sumOf(II)I at 5
theorem q68_5 (d : Nat) (x0 : Int) (x1 : Int) (x2 : Int) (x3 : Int) (h : MH) : Run d 68 5 [.inr (.inr (.inl 12)), .inl x0, .inl x1, .inl x2, .inl x3] [] h = (if x1 ≤ x3 then some (some (.inl x2), h) else (if 0 ≤ (wI (x0 + x3)) ∧ (wI (x0 + x3)) < 37 then Run d 68 5 [.inr (.inr (.inl 12)), .inl x0, .inl x1, .inl (wI (x2 + (h 91 (wI (x0 + x3)).toNat))), .inl (wI (x3 + 1))] [] h else none)) := by
  refine (R_iload zf68_5 rfl rfl).trans ?_
  refine (R_iload_n zf68_7 rfl rfl).trans ?_
  refine (R_icmp_ge (t := 29) zf68_8 rfl rfl).trans ?_
  refine ite_congr rfl (fun c1_ => ?_) (fun c1_ => ?_)
  · refine (R_iload_n zf68_29 rfl rfl).trans ?_
    exact R_ireturn_i zf68_30 zr_68
  · refine (R_iload_n zf68_11 rfl rfl).trans ?_
    refine (R_aload_n zf68_12 rfl zlt_12 rfl).trans ?_
    refine (R_getR zf68_13 zo_68 zfl_9_15 zk1_12 zft_9_0 zmr_12_0 rfl).trans ?_
    refine (R_iload_n zf68_16 rfl rfl).trans ?_
    refine (R_iload zf68_17 rfl rfl).trans ?_
    refine (R_iadd zf68_19 rfl).trans ?_
    refine (R_iald zf68_20 zk_91 rfl).trans ?_
    refine ite_congr rfl (fun c2_ => ?_) (fun _ => rfl)
    refine (R_iadd zf68_21 rfl).trans ?_
    refine (R_istore_n (ls' := [.inr (.inr (.inl 12)), .inl x0, .inl x1, .inl (wI (x2 + (h 91 (wI (x0 + x3)).toNat))), .inl x3]) zf68_22 (Nat.le_of_ble_eq_true rfl) rfl rfl).trans ?_
    refine (R_iinc (ls' := [.inr (.inr (.inl 12)), .inl x0, .inl x1, .inl (wI (x2 + (h 91 (wI (x0 + x3)).toNat))), .inl (wI (x3 + 1))]) zf68_23 rfl rfl rfl).trans ?_
    refine (R_goto (t := 5) zf68_26 rfl).trans ?_
    rfl
-- CannonPost$State.land(III)V at 0
theorem q88_0 (d : Nat) (x0 : Int) (x1 : Int) (x2 : Int) (h : MH) : Run d 88 0 [.inr (.inr (.inl 12)), .inl x0, .inl x1, .inl x2] [] h = (if 0 ≤ (wI (21 + x1)) ∧ (wI (21 + x1)) < 37 then (if (h 91 (wI (21 + x1)).toNat) ≤ 0 then (if 0 ≤ (wI (11 + x0)) ∧ (wI (11 + x0)) < 37 then (if 0 ≤ (wI (11 + x0)) ∧ (wI (11 + x0)) < 37 then Run d 88 53 [.inr (.inr (.inl 12)), .inl x0, .inl x1, .inl x2] [] (up h 91 (wI (11 + x0)).toNat (mn 99 (wI ((h 91 (wI (11 + x0)).toNat) + 1)))) else none) else none) else (if 0 ≤ (wI (21 + x1)) ∧ (wI (21 + x1)) < 37 then (if 0 ≤ (wI (21 + x1)) ∧ (wI (21 + x1)) < 37 then Run d 88 53 [.inr (.inr (.inl 12)), .inl x0, .inl x1, .inl x2] [] (up h 91 (wI (21 + x1)).toNat (wI ((h 91 (wI (21 + x1)).toNat) - 1))) else none) else none)) else none) := by
  refine (R_aload_n zf88_0 rfl zlt_12 rfl).trans ?_
  refine (R_getR zf88_1 zo_88 zfl_9_15 zk1_12 zft_9_0 zmr_12_0 rfl).trans ?_
  refine (R_bipush zf88_4 zb_21 rfl).trans ?_
  refine (R_iload_n zf88_6 rfl rfl).trans ?_
  refine (R_iadd zf88_7 rfl).trans ?_
  refine (R_iald zf88_8 zk_91 rfl).trans ?_
  refine ite_congr rfl (fun c1_ => ?_) (fun _ => rfl)
  refine (R_if_le (t := 28) zf88_9 rfl rfl).trans ?_
  refine ite_congr rfl (fun c2_ => ?_) (fun c2_ => ?_)
  · refine (R_aload_n zf88_28 rfl zlt_12 rfl).trans ?_
    refine (R_getR zf88_29 zo_88 zfl_9_15 zk1_12 zft_9_0 zmr_12_0 rfl).trans ?_
    refine (R_bipush zf88_32 zb_11 rfl).trans ?_
    refine (R_iload_n zf88_34 rfl rfl).trans ?_
    refine (R_iadd zf88_35 rfl).trans ?_
    refine (R_bipush zf88_36 zb_99 rfl).trans ?_
    refine (R_aload_n zf88_38 rfl zlt_12 rfl).trans ?_
    refine (R_getR zf88_39 zo_88 zfl_9_15 zk1_12 zft_9_0 zmr_12_0 rfl).trans ?_
    refine (R_bipush zf88_42 zb_11 rfl).trans ?_
    refine (R_iload_n zf88_44 rfl rfl).trans ?_
    refine (R_iadd zf88_45 rfl).trans ?_
    refine (R_iald zf88_46 zk_91 rfl).trans ?_
    refine ite_congr rfl (fun c3_ => ?_) (fun _ => rfl)
    refine (R_iconst zf88_47 zw_1 rfl).trans ?_
    refine (R_iadd zf88_48 rfl).trans ?_
    refine (R_mmin zf88_49 zo_88 zsl_9_64 zml_9_64 zna_9_64 (Nat.le_of_ble_eq_true rfl) rfl).trans ?_
    refine (R_iast zf88_52 zk_91 rfl).trans ?_
    refine ite_congr rfl (fun c4_ => ?_) (fun _ => rfl)
    rfl
  · refine (R_aload_n zf88_12 rfl zlt_12 rfl).trans ?_
    refine (R_getR zf88_13 zo_88 zfl_9_15 zk1_12 zft_9_0 zmr_12_0 rfl).trans ?_
    refine (R_bipush zf88_16 zb_21 rfl).trans ?_
    refine (R_iload_n zf88_18 rfl rfl).trans ?_
    refine (R_iadd zf88_19 rfl).trans ?_
    refine (R_dup2 zf88_20 rfl rfl rfl).trans ?_
    refine (R_iald zf88_21 zk_91 rfl).trans ?_
    refine ite_congr rfl (fun c5_ => ?_) (fun _ => rfl)
    refine (R_iconst zf88_22 zw_1 rfl).trans ?_
    refine (R_isub zf88_23 rfl).trans ?_
    refine (R_iast zf88_24 zk_91 rfl).trans ?_
    refine ite_congr rfl (fun c6_ => ?_) (fun _ => rfl)
    refine (R_goto (t := 53) zf88_25 rfl).trans ?_
    rfl
-- CannonPost$State.noteShot(IIII)V at 0
theorem q89_0 (d : Nat) (x0 : Int) (x1 : Int) (x2 : Int) (x3 : Int) (h : MH) : Run d 89 0 [.inr (.inr (.inl 12)), .inl x0, .inl x1, .inl x2, .inl x3, vU] [] h = (if 0 ≤ (wI (((h 91 5).tmod 100) * 4)) ∧ (wI (((h 91 5).tmod 100) * 4)) < 400 then (if 0 ≤ (wI ((wI (((h 91 5).tmod 100) * 4)) + 1)) ∧ (wI ((wI (((h 91 5).tmod 100) * 4)) + 1)) < 400 then (if 0 ≤ (wI ((wI (((h 91 5).tmod 100) * 4)) + 2)) ∧ (wI ((wI (((h 91 5).tmod 100) * 4)) + 2)) < 400 then (if 0 ≤ (wI ((wI (((h 91 5).tmod 100) * 4)) + 3)) ∧ (wI ((wI (((h 91 5).tmod 100) * 4)) + 3)) < 400 then some (none, (up (up (up (up (up h 92 (wI (((h 91 5).tmod 100) * 4)).toNat x0) 92 (wI ((wI (((h 91 5).tmod 100) * 4)) + 1)).toNat x1) 92 (wI ((wI (((h 91 5).tmod 100) * 4)) + 2)).toNat x2) 92 (wI ((wI (((h 91 5).tmod 100) * 4)) + 3)).toNat x3) 91 5 (wI (((up (up (up (up h 92 (wI (((h 91 5).tmod 100) * 4)).toNat x0) 92 (wI ((wI (((h 91 5).tmod 100) * 4)) + 1)).toNat x1) 92 (wI ((wI (((h 91 5).tmod 100) * 4)) + 2)).toNat x2) 92 (wI ((wI (((h 91 5).tmod 100) * 4)) + 3)).toNat x3) 91 5) + 1)))) else none) else none) else none) else none) := by
  refine (R_aload_n zf89_0 rfl zlt_12 rfl).trans ?_
  refine (R_getR zf89_1 zo_89 zfl_9_15 zk1_12 zft_9_0 zmr_12_0 rfl).trans ?_
  refine (R_iconst zf89_4 zw_5 rfl).trans ?_
  refine (R_ialdc zf89_5 zk_91 (by decide) rfl rfl).trans ?_
  refine (R_bipush zf89_6 zb_100 rfl).trans ?_
  refine (R_irem zf89_8 (by decide) rfl).trans ?_
  refine (R_iconst zf89_9 zw_4 rfl).trans ?_
  refine (R_imul zf89_10 rfl).trans ?_
  refine (R_istore (ls' := [.inr (.inr (.inl 12)), .inl x0, .inl x1, .inl x2, .inl x3, .inl (wI (((h 91 5).tmod 100) * 4))]) zf89_11 (Nat.le_of_ble_eq_true rfl) rfl rfl).trans ?_
  refine (R_aload_n zf89_13 rfl zlt_12 rfl).trans ?_
  refine (R_getR zf89_14 zo_89 zfl_9_19 zk1_12 zft_9_1 zmr_12_1 rfl).trans ?_
  refine (R_iload zf89_17 rfl rfl).trans ?_
  refine (R_iload_n zf89_19 rfl rfl).trans ?_
  refine (R_iast zf89_20 zk_92 rfl).trans ?_
  refine ite_congr rfl (fun c1_ => ?_) (fun _ => rfl)
  refine (R_aload_n zf89_21 rfl zlt_12 rfl).trans ?_
  refine (R_getR zf89_22 zo_89 zfl_9_19 zk1_12 zft_9_1 zmr_12_1 rfl).trans ?_
  refine (R_iload zf89_25 rfl rfl).trans ?_
  refine (R_iconst zf89_27 zw_1 rfl).trans ?_
  refine (R_iadd zf89_28 rfl).trans ?_
  refine (R_iload_n zf89_29 rfl rfl).trans ?_
  refine (R_iast zf89_30 zk_92 rfl).trans ?_
  refine ite_congr rfl (fun c2_ => ?_) (fun _ => rfl)
  refine (R_aload_n zf89_31 rfl zlt_12 rfl).trans ?_
  refine (R_getR zf89_32 zo_89 zfl_9_19 zk1_12 zft_9_1 zmr_12_1 rfl).trans ?_
  refine (R_iload zf89_35 rfl rfl).trans ?_
  refine (R_iconst zf89_37 zw_2 rfl).trans ?_
  refine (R_iadd zf89_38 rfl).trans ?_
  refine (R_iload_n zf89_39 rfl rfl).trans ?_
  refine (R_iast zf89_40 zk_92 rfl).trans ?_
  refine ite_congr rfl (fun c3_ => ?_) (fun _ => rfl)
  refine (R_aload_n zf89_41 rfl zlt_12 rfl).trans ?_
  refine (R_getR zf89_42 zo_89 zfl_9_19 zk1_12 zft_9_1 zmr_12_1 rfl).trans ?_
  refine (R_iload zf89_45 rfl rfl).trans ?_
  refine (R_iconst zf89_47 zw_3 rfl).trans ?_
  refine (R_iadd zf89_48 rfl).trans ?_
  refine (R_iload zf89_49 rfl rfl).trans ?_
  refine (R_iast zf89_51 zk_92 rfl).trans ?_
  refine ite_congr rfl (fun c4_ => ?_) (fun _ => rfl)
  refine (R_aload_n zf89_52 rfl zlt_12 rfl).trans ?_
  refine (R_getR zf89_53 zo_89 zfl_9_15 zk1_12 zft_9_0 zmr_12_0 rfl).trans ?_
  refine (R_iconst zf89_56 zw_5 rfl).trans ?_
  refine (R_dup2 zf89_57 rfl rfl rfl).trans ?_
  refine (R_ialdc zf89_58 zk_91 (by decide) rfl rfl).trans ?_
  refine (R_iconst zf89_59 zw_1 rfl).trans ?_
  refine (R_iadd zf89_60 rfl).trans ?_
  refine (R_iastc zf89_61 zk_91 (by decide) rfl rfl).trans ?_
  exact R_return zf89_62 zr_89
-- CannonPost$State.passHour(I)V at 0
theorem q100_0 (d : Nat) (x0 : Int) (h : MH) : Run d 100 0 [.inr (.inr (.inl 12)), .inl x0, vU] [] h = Run d 100 2 [.inr (.inr (.inl 12)), .inl x0, .inl 0] [] h := by
  refine (R_iconst zf100_0 zw_0 rfl).trans ?_
  refine (R_istore_n (ls' := [.inr (.inr (.inl 12)), .inl x0, .inl 0]) zf100_1 (Nat.le_of_ble_eq_true rfl) rfl rfl).trans ?_
  rfl
-- CannonPost.drawAheadOfHour(J)J at 0
theorem q102_0 (d : Nat) (x0 : Int) (h : MH) : Run (d + 1) 102 0 [.inr (.inr (.inl 0)), .inr (.inl x0), vU, vU, vU, vU, vU, vU] [] h = (cJ (Run d 103 0 [.inr (.inl x0), vU] [] h) fun a2_ h1_ => (cI (Run d 104 0 [.inr (.inl a2_), vU, .inl 10] [] h1_) fun a4_ h3_ => (if (h3_ 0 14) ≤ a4_ then Run (d + 1) 102 38 [.inr (.inr (.inl 0)), .inr (.inl x0), vU, .inr (.inl a2_), vU, vU, vU, vU] [] h3_ else (cJ (Run d 103 0 [.inr (.inl a2_), vU] [] h3_) fun a7_ h6_ => (cI (Run d 104 0 [.inr (.inl a7_), vU, .inl 10] [] h6_) fun a9_ h8_ => Run (d + 1) 102 38 [.inr (.inr (.inl 0)), .inr (.inl x0), vU, .inr (.inl a7_), vU, vU, vU, vU] [] (up h8_ 91 3 a9_)))))) := by
  refine (R_lload_n zf102_0 rfl rfl).trans ?_
  refine (R_callJ zf102_1 zo_102 zsl_11_293 zr_103 zl_103 (Nat.le_of_ble_eq_true rfl) rfl rfl (Nat.le_of_ble_eq_true rfl) (Nat.le_of_ble_eq_true rfl) (es := [.inr (.inl x0), vU]) rfl rfl).trans ?_
  refine congrArg (cJ _) (funext fun a2_ => funext fun h1_ => ?_)
  refine (R_lstore_n (ls' := [.inr (.inr (.inl 0)), .inr (.inl x0), vU, .inr (.inl a2_), vU, vU, vU, vU]) zf102_4 (Nat.le_of_ble_eq_true rfl) rfl rfl).trans ?_
  refine (R_lload_n zf102_5 rfl rfl).trans ?_
  refine (R_bipush zf102_6 zb_10 rfl).trans ?_
  refine (R_callI zf102_8 zo_102 zsl_11_296 (by rw [zr_104]; rfl) zl_104 (Nat.le_of_ble_eq_true rfl) rfl rfl (Nat.le_of_ble_eq_true rfl) (Nat.le_of_ble_eq_true rfl) (es := [.inr (.inl a2_), vU, .inl 10]) rfl rfl).trans ?_
  refine congrArg (cI _) (funext fun a4_ => funext fun h3_ => ?_)
  refine (R_aload_n zf102_11 rfl zlt_0 rfl).trans ?_
  refine (R_getI zf102_12 zo_102 zfl_11_202 zk1_0 zft_11_14 rfl).trans ?_
  refine (R_icmp_ge (t := 38) zf102_15 rfl rfl).trans ?_
  refine ite_congr rfl (fun c5_ => ?_) (fun c5_ => ?_)
  · rfl
  · refine (R_lload_n zf102_18 rfl rfl).trans ?_
    refine (R_callJ zf102_19 zo_102 zsl_11_293 zr_103 zl_103 (Nat.le_of_ble_eq_true rfl) rfl rfl (Nat.le_of_ble_eq_true rfl) (Nat.le_of_ble_eq_true rfl) (es := [.inr (.inl a2_), vU]) rfl rfl).trans ?_
    refine congrArg (cJ _) (funext fun a7_ => funext fun h6_ => ?_)
    refine (R_lstore_n (ls' := [.inr (.inr (.inl 0)), .inr (.inl x0), vU, .inr (.inl a7_), vU, vU, vU, vU]) zf102_22 (Nat.le_of_ble_eq_true rfl) rfl rfl).trans ?_
    refine (R_aload_n zf102_23 rfl zlt_0 rfl).trans ?_
    refine (R_getR zf102_24 zo_102 zfl_11_88 zk1_0 zft_11_10 zmr_0_10 rfl).trans ?_
    refine (R_getR zf102_27 zo_102 zfl_11_162 zk1_12 zft_9_0 zmr_12_0 rfl).trans ?_
    refine (R_iconst zf102_30 zw_3 rfl).trans ?_
    refine (R_lload_n zf102_31 rfl rfl).trans ?_
    refine (R_bipush zf102_32 zb_10 rfl).trans ?_
    refine (R_callI zf102_34 zo_102 zsl_11_296 (by rw [zr_104]; rfl) zl_104 (Nat.le_of_ble_eq_true rfl) rfl rfl (Nat.le_of_ble_eq_true rfl) (Nat.le_of_ble_eq_true rfl) (es := [.inr (.inl a7_), vU, .inl 10]) rfl rfl).trans ?_
    refine congrArg (cI _) (funext fun a9_ => funext fun h8_ => ?_)
    refine (R_iastc zf102_37 zk_91 (by decide) rfl rfl).trans ?_
    rfl
-- CannonPost.follow(LCannonPost$State;IZ)I at 3
theorem q117_3 (d : Nat) (x0 : Int) (x1 : Int) (x2 : Int) (z3 : MV) (hz3 : cat z3 = 1) (z4 : MV) (hz4 : cat z4 = 1) (h : MH) : Run (d + 1) 117 3 [.inr (.inr (.inl 0)), .inr (.inr (.inl 13)), .inl x0, .inl x1, .inl x2, z3, z4] [] h = (if 0 ≤ x0 ∧ x0 < 4 then (if (h 31 x0.toNat) ≤ x2 then (if 0 ≤ x0 ∧ x0 < 4 then some (some (.inl (h 31 x0.toNat)), h) else none) else (cI (Run d 118 0 [.inr (.inr (.inl 0)), .inr (.inr (.inl 13)), .inl x0, .inl x2, vU, vU] [] h) fun a5_ h4_ => (if ¬ a5_ = 0 then (cI (Run d 115 0 [.inr (.inr (.inl 7)), .inl x0, .inl x2, .inl 0] [] h4_) fun a8_ h7_ => (if ¬ a8_ = 1 then Run (d + 1) 117 66 [.inr (.inr (.inl 0)), .inr (.inr (.inl 13)), .inl x0, .inl x1, .inl x2, .inl 1, .inl 0] [] h7_ else (cI (Run d 115 0 [.inr (.inr (.inl 7)), .inl x0, .inl x2, .inl 1] [] h7_) fun a11_ h10_ => Run (d + 1) 117 66 [.inr (.inr (.inl 0)), .inr (.inr (.inl 13)), .inl x0, .inl x1, .inl x2, .inl a11_, .inl 0] [] h10_))) else some (some (.inl x2), h4_)))) else none) := by
  refine (R_iload zf117_3 rfl rfl).trans ?_
  refine (R_aload_n zf117_5 rfl zlt_0 rfl).trans ?_
  refine (R_getR zf117_6 zo_117 zfl_11_49 zk1_0 zft_11_5 zmr_0_5 rfl).trans ?_
  refine (R_getR zf117_9 zo_117 zfl_11_311 zk1_7 zft_8_0 zmr_7_0 rfl).trans ?_
  refine (R_iload_n zf117_12 rfl rfl).trans ?_
  refine (R_iald zf117_13 zk_31 rfl).trans ?_
  refine ite_congr rfl (fun c1_ => ?_) (fun _ => rfl)
  refine (R_icmp_ge (t := 105) zf117_14 rfl rfl).trans ?_
  refine ite_congr rfl (fun c2_ => ?_) (fun c2_ => ?_)
  · refine (R_aload_n zf117_105 rfl zlt_0 rfl).trans ?_
    refine (R_getR zf117_106 zo_117 zfl_11_49 zk1_0 zft_11_5 zmr_0_5 rfl).trans ?_
    refine (R_getR zf117_109 zo_117 zfl_11_311 zk1_7 zft_8_0 zmr_7_0 rfl).trans ?_
    refine (R_iload_n zf117_112 rfl rfl).trans ?_
    refine (R_iald zf117_113 zk_31 rfl).trans ?_
    refine ite_congr rfl (fun c3_ => ?_) (fun _ => rfl)
    exact R_ireturn_i zf117_114 zr_117
  · refine (R_aload_n zf117_17 rfl zlt_0 rfl).trans ?_
    refine (R_aload_n zf117_18 rfl zlt_13 rfl).trans ?_
    refine (R_iload_n zf117_19 rfl rfl).trans ?_
    refine (R_iload zf117_20 rfl rfl).trans ?_
    refine (R_vcallI zf117_22 zo_117 zvl_11_322 (by rw [zr_118]; rfl) zl_118 (Nat.le_of_ble_eq_true rfl) rfl rfl (Nat.le_of_ble_eq_true rfl) (Nat.le_of_ble_eq_true rfl) (es := [.inr (.inr (.inl 0)), .inr (.inr (.inl 13)), .inl x0, .inl x2, vU, vU]) rfl rfl zk1_0 zo_118).trans ?_
    refine congrArg (cI _) (funext fun a5_ => funext fun h4_ => ?_)
    refine (R_if_ne (t := 31) zf117_25 rfl rfl).trans ?_
    refine ite_congr rfl (fun c6_ => ?_) (fun c6_ => ?_)
    · refine (R_aload_n zf117_31 rfl zlt_0 rfl).trans ?_
      refine (R_getR zf117_32 zo_117 zfl_11_49 zk1_0 zft_11_5 zmr_0_5 rfl).trans ?_
      refine (R_iload_n zf117_35 rfl rfl).trans ?_
      refine (R_iload zf117_36 rfl rfl).trans ?_
      refine (R_iconst zf117_38 zw_0 rfl).trans ?_
      refine (R_vcallI zf117_39 zo_117 zvl_11_314 (by rw [zr_115]; rfl) zl_115 (Nat.le_of_ble_eq_true rfl) rfl rfl (Nat.le_of_ble_eq_true rfl) (Nat.le_of_ble_eq_true rfl) (es := [.inr (.inr (.inl 7)), .inl x0, .inl x2, .inl 0]) rfl rfl zk1_7 zo_115).trans ?_
      refine congrArg (cI _) (funext fun a8_ => funext fun h7_ => ?_)
      refine (R_iconst zf117_42 zw_1 rfl).trans ?_
      refine (R_icmp_ne (t := 60) zf117_43 rfl rfl).trans ?_
      refine ite_congr rfl (fun c9_ => ?_) (fun c9_ => ?_)
      · refine (R_iconst zf117_60 zw_1 rfl).trans ?_
        refine (R_istore (ls' := [.inr (.inr (.inl 0)), .inr (.inr (.inl 13)), .inl x0, .inl x1, .inl x2, .inl 1, z4]) zf117_61 (Nat.le_of_ble_eq_true rfl) rfl rfl).trans ?_
        refine (R_iconst zf117_63 zw_0 rfl).trans ?_
        refine (R_istore (ls' := [.inr (.inr (.inl 0)), .inr (.inr (.inl 13)), .inl x0, .inl x1, .inl x2, .inl 1, .inl 0]) zf117_64 (Nat.le_of_ble_eq_true rfl) rfl rfl).trans ?_
        rfl
      · refine (R_aload_n zf117_46 rfl zlt_0 rfl).trans ?_
        refine (R_getR zf117_47 zo_117 zfl_11_49 zk1_0 zft_11_5 zmr_0_5 rfl).trans ?_
        refine (R_iload_n zf117_50 rfl rfl).trans ?_
        refine (R_iload zf117_51 rfl rfl).trans ?_
        refine (R_iconst zf117_53 zw_1 rfl).trans ?_
        refine (R_vcallI zf117_54 zo_117 zvl_11_314 (by rw [zr_115]; rfl) zl_115 (Nat.le_of_ble_eq_true rfl) rfl rfl (Nat.le_of_ble_eq_true rfl) (Nat.le_of_ble_eq_true rfl) (es := [.inr (.inr (.inl 7)), .inl x0, .inl x2, .inl 1]) rfl rfl zk1_7 zo_115).trans ?_
        refine congrArg (cI _) (funext fun a11_ => funext fun h10_ => ?_)
        refine (R_goto (t := 61) zf117_57 rfl).trans ?_
        refine (R_istore (ls' := [.inr (.inr (.inl 0)), .inr (.inr (.inl 13)), .inl x0, .inl x1, .inl x2, .inl a11_, z4]) zf117_61 (Nat.le_of_ble_eq_true rfl) rfl rfl).trans ?_
        refine (R_iconst zf117_63 zw_0 rfl).trans ?_
        refine (R_istore (ls' := [.inr (.inr (.inl 0)), .inr (.inr (.inl 13)), .inl x0, .inl x1, .inl x2, .inl a11_, .inl 0]) zf117_64 (Nat.le_of_ble_eq_true rfl) rfl rfl).trans ?_
        rfl
    · refine (R_iload zf117_28 rfl rfl).trans ?_
      exact R_ireturn_i zf117_30 zr_117
-- CannonPost.follow(LCannonPost$State;IZ)I at 3
theorem q117_3_1 (d : Nat) (x0 : Int) (x1 : Int) (x2 : Int) (z3 : MV) (hz3 : cat z3 = 1) (z4 : MV) (hz4 : cat z4 = 1) (h : MH) : Run (d + 1) 117 3 [.inr (.inr (.inl 0)), .inr (.inr (.inl 12)), .inl x0, .inl x1, .inl x2, z3, z4] [] h = (if 0 ≤ x0 ∧ x0 < 4 then (if (h 31 x0.toNat) ≤ x2 then (if 0 ≤ x0 ∧ x0 < 4 then some (some (.inl (h 31 x0.toNat)), h) else none) else (cI (Run d 118 0 [.inr (.inr (.inl 0)), .inr (.inr (.inl 12)), .inl x0, .inl x2, vU, vU] [] h) fun a5_ h4_ => (if ¬ a5_ = 0 then (cI (Run d 115 0 [.inr (.inr (.inl 7)), .inl x0, .inl x2, .inl 0] [] h4_) fun a8_ h7_ => (if ¬ a8_ = 1 then Run (d + 1) 117 66 [.inr (.inr (.inl 0)), .inr (.inr (.inl 12)), .inl x0, .inl x1, .inl x2, .inl 1, .inl 0] [] h7_ else (cI (Run d 115 0 [.inr (.inr (.inl 7)), .inl x0, .inl x2, .inl 1] [] h7_) fun a11_ h10_ => Run (d + 1) 117 66 [.inr (.inr (.inl 0)), .inr (.inr (.inl 12)), .inl x0, .inl x1, .inl x2, .inl a11_, .inl 0] [] h10_))) else some (some (.inl x2), h4_)))) else none) := by
  refine (R_iload zf117_3 rfl rfl).trans ?_
  refine (R_aload_n zf117_5 rfl zlt_0 rfl).trans ?_
  refine (R_getR zf117_6 zo_117 zfl_11_49 zk1_0 zft_11_5 zmr_0_5 rfl).trans ?_
  refine (R_getR zf117_9 zo_117 zfl_11_311 zk1_7 zft_8_0 zmr_7_0 rfl).trans ?_
  refine (R_iload_n zf117_12 rfl rfl).trans ?_
  refine (R_iald zf117_13 zk_31 rfl).trans ?_
  refine ite_congr rfl (fun c1_ => ?_) (fun _ => rfl)
  refine (R_icmp_ge (t := 105) zf117_14 rfl rfl).trans ?_
  refine ite_congr rfl (fun c2_ => ?_) (fun c2_ => ?_)
  · refine (R_aload_n zf117_105 rfl zlt_0 rfl).trans ?_
    refine (R_getR zf117_106 zo_117 zfl_11_49 zk1_0 zft_11_5 zmr_0_5 rfl).trans ?_
    refine (R_getR zf117_109 zo_117 zfl_11_311 zk1_7 zft_8_0 zmr_7_0 rfl).trans ?_
    refine (R_iload_n zf117_112 rfl rfl).trans ?_
    refine (R_iald zf117_113 zk_31 rfl).trans ?_
    refine ite_congr rfl (fun c3_ => ?_) (fun _ => rfl)
    exact R_ireturn_i zf117_114 zr_117
  · refine (R_aload_n zf117_17 rfl zlt_0 rfl).trans ?_
    refine (R_aload_n zf117_18 rfl zlt_12 rfl).trans ?_
    refine (R_iload_n zf117_19 rfl rfl).trans ?_
    refine (R_iload zf117_20 rfl rfl).trans ?_
    refine (R_vcallI zf117_22 zo_117 zvl_11_322 (by rw [zr_118]; rfl) zl_118 (Nat.le_of_ble_eq_true rfl) rfl rfl (Nat.le_of_ble_eq_true rfl) (Nat.le_of_ble_eq_true rfl) (es := [.inr (.inr (.inl 0)), .inr (.inr (.inl 12)), .inl x0, .inl x2, vU, vU]) rfl rfl zk1_0 zo_118).trans ?_
    refine congrArg (cI _) (funext fun a5_ => funext fun h4_ => ?_)
    refine (R_if_ne (t := 31) zf117_25 rfl rfl).trans ?_
    refine ite_congr rfl (fun c6_ => ?_) (fun c6_ => ?_)
    · refine (R_aload_n zf117_31 rfl zlt_0 rfl).trans ?_
      refine (R_getR zf117_32 zo_117 zfl_11_49 zk1_0 zft_11_5 zmr_0_5 rfl).trans ?_
      refine (R_iload_n zf117_35 rfl rfl).trans ?_
      refine (R_iload zf117_36 rfl rfl).trans ?_
      refine (R_iconst zf117_38 zw_0 rfl).trans ?_
      refine (R_vcallI zf117_39 zo_117 zvl_11_314 (by rw [zr_115]; rfl) zl_115 (Nat.le_of_ble_eq_true rfl) rfl rfl (Nat.le_of_ble_eq_true rfl) (Nat.le_of_ble_eq_true rfl) (es := [.inr (.inr (.inl 7)), .inl x0, .inl x2, .inl 0]) rfl rfl zk1_7 zo_115).trans ?_
      refine congrArg (cI _) (funext fun a8_ => funext fun h7_ => ?_)
      refine (R_iconst zf117_42 zw_1 rfl).trans ?_
      refine (R_icmp_ne (t := 60) zf117_43 rfl rfl).trans ?_
      refine ite_congr rfl (fun c9_ => ?_) (fun c9_ => ?_)
      · refine (R_iconst zf117_60 zw_1 rfl).trans ?_
        refine (R_istore (ls' := [.inr (.inr (.inl 0)), .inr (.inr (.inl 12)), .inl x0, .inl x1, .inl x2, .inl 1, z4]) zf117_61 (Nat.le_of_ble_eq_true rfl) rfl rfl).trans ?_
        refine (R_iconst zf117_63 zw_0 rfl).trans ?_
        refine (R_istore (ls' := [.inr (.inr (.inl 0)), .inr (.inr (.inl 12)), .inl x0, .inl x1, .inl x2, .inl 1, .inl 0]) zf117_64 (Nat.le_of_ble_eq_true rfl) rfl rfl).trans ?_
        rfl
      · refine (R_aload_n zf117_46 rfl zlt_0 rfl).trans ?_
        refine (R_getR zf117_47 zo_117 zfl_11_49 zk1_0 zft_11_5 zmr_0_5 rfl).trans ?_
        refine (R_iload_n zf117_50 rfl rfl).trans ?_
        refine (R_iload zf117_51 rfl rfl).trans ?_
        refine (R_iconst zf117_53 zw_1 rfl).trans ?_
        refine (R_vcallI zf117_54 zo_117 zvl_11_314 (by rw [zr_115]; rfl) zl_115 (Nat.le_of_ble_eq_true rfl) rfl rfl (Nat.le_of_ble_eq_true rfl) (Nat.le_of_ble_eq_true rfl) (es := [.inr (.inr (.inl 7)), .inl x0, .inl x2, .inl 1]) rfl rfl zk1_7 zo_115).trans ?_
        refine congrArg (cI _) (funext fun a11_ => funext fun h10_ => ?_)
        refine (R_goto (t := 61) zf117_57 rfl).trans ?_
        refine (R_istore (ls' := [.inr (.inr (.inl 0)), .inr (.inr (.inl 12)), .inl x0, .inl x1, .inl x2, .inl a11_, z4]) zf117_61 (Nat.le_of_ble_eq_true rfl) rfl rfl).trans ?_
        refine (R_iconst zf117_63 zw_0 rfl).trans ?_
        refine (R_istore (ls' := [.inr (.inr (.inl 0)), .inr (.inr (.inl 12)), .inl x0, .inl x1, .inl x2, .inl a11_, .inl 0]) zf117_64 (Nat.le_of_ble_eq_true rfl) rfl rfl).trans ?_
        rfl
    · refine (R_iload zf117_28 rfl rfl).trans ?_
      exact R_ireturn_i zf117_30 zr_117
-- CannonPost$Flight.along(III)I at 0
theorem q80_0 (d : Nat) (x0 : Int) (x1 : Int) (x2 : Int) (h : MH) : Run d 80 0 [.inl x0, .inl x1, .inl x2] [] h = (if ¬ x1 = x2 then some (some (.inl (wI (-x0))), h) else some (some (.inl x0), h)) := by
  refine (R_iload_n zf80_0 rfl rfl).trans ?_
  refine (R_iload_n zf80_1 rfl rfl).trans ?_
  refine (R_icmp_ne (t := 9) zf80_2 rfl rfl).trans ?_
  refine ite_congr rfl (fun c1_ => ?_) (fun c1_ => ?_)
  · refine (R_iload_n zf80_9 rfl rfl).trans ?_
    refine (R_ineg zf80_10 rfl).trans ?_
    exact R_ireturn_i zf80_11 zr_80
  · refine (R_iload_n zf80_5 rfl rfl).trans ?_
    refine (R_goto (t := 11) zf80_6 rfl).trans ?_
    exact R_ireturn_i zf80_11 zr_80
-- CannonPost$Flight.reach(IIIII)I at 0
theorem q81_0 (d : Nat) (x0 : Int) (x1 : Int) (x2 : Int) (x3 : Int) (x4 : Int) (h : MH) : Run (d + 1) 81 0 [.inr (.inr (.inl 8)), .inl x0, .inl x1, .inl x2, .inl x3, .inl x4, vU, vU, vU] [] h = (cI (Run d 82 0 [.inr (.inr (.inl 2)), .inl x0] [] h) fun a2_ h1_ => (cI (Run d 64 0 [.inr (.inr (.inl 2)), .inl x1] [] h1_) fun a4_ h3_ => (if ¬ (h3_ 6 2) = (-1) then (cI (Run d 83 0 [.inr (.inr (.inl 2)), .inl x0] [] (up (up (up (up h3_ 23 0 x2) 23 1 a2_) 23 2 x3) 23 3 a4_)) fun a7_ h6_ => (cI (Run d 84 0 [.inr (.inr (.inl 6)), vU, vU, vU, vU, vU] [] (up (up h6_ 23 4 a7_) 23 5 x4)) fun a9_ h8_ => some (some (.inl (mx 0 (mn 60 a9_))), h8_))) else (if ¬ a2_ = 0 then (if a2_ = 0 then none else some (some (.inl (mx 0 (mn 60 (wI ((wI ((wI ((wI ((wI (6 * x2)).tdiv a2_)) + a4_)) + x3)) - x4))))), h3_)) else some (some (.inl (mx 0 (mn 60 (wI ((wI ((wI (0 + a4_)) + x3)) - x4))))), h3_))))) := by
  refine (R_aload_n zf81_0 rfl zlt_8 rfl).trans ?_
  refine (R_getR zf81_1 zo_81 zfl_0_20 zk1_8 zft_0_0 zmr_8_0 rfl).trans ?_
  refine (R_iload_n zf81_4 rfl rfl).trans ?_
  refine (R_vcallI zf81_5 zo_81 zvl_0_34 (by rw [zr_82]; rfl) zl_82 (Nat.le_of_ble_eq_true rfl) rfl rfl (Nat.le_of_ble_eq_true rfl) (Nat.le_of_ble_eq_true rfl) (es := [.inr (.inr (.inl 2)), .inl x0]) rfl rfl zk1_2 zo_82).trans ?_
  refine congrArg (cI _) (funext fun a2_ => funext fun h1_ => ?_)
  refine (R_istore (ls' := [.inr (.inr (.inl 8)), .inl x0, .inl x1, .inl x2, .inl x3, .inl x4, .inl a2_, vU, vU]) zf81_8 (Nat.le_of_ble_eq_true rfl) rfl rfl).trans ?_
  refine (R_aload_n zf81_10 rfl zlt_8 rfl).trans ?_
  refine (R_getR zf81_11 zo_81 zfl_0_20 zk1_8 zft_0_0 zmr_8_0 rfl).trans ?_
  refine (R_iload_n zf81_14 rfl rfl).trans ?_
  refine (R_vcallI zf81_15 zo_81 zvl_0_38 (by rw [zr_64]; rfl) zl_64 (Nat.le_of_ble_eq_true rfl) rfl rfl (Nat.le_of_ble_eq_true rfl) (Nat.le_of_ble_eq_true rfl) (es := [.inr (.inr (.inl 2)), .inl x1]) rfl rfl zk1_2 zo_64).trans ?_
  refine congrArg (cI _) (funext fun a4_ => funext fun h3_ => ?_)
  refine (R_istore (ls' := [.inr (.inr (.inl 8)), .inl x0, .inl x1, .inl x2, .inl x3, .inl x4, .inl a2_, .inl a4_, vU]) zf81_18 (Nat.le_of_ble_eq_true rfl) rfl rfl).trans ?_
  refine (R_aload_n zf81_20 rfl zlt_8 rfl).trans ?_
  refine (R_getR zf81_21 zo_81 zfl_0_24 zk1_8 zft_0_1 zmr_8_1 rfl).trans ?_
  refine (R_getI zf81_24 zo_81 zfl_0_41 zk1_6 zft_4_2 rfl).trans ?_
  refine (R_iconst zf81_27 zw_m1 rfl).trans ?_
  refine (R_icmp_ne (t := 61) zf81_28 rfl rfl).trans ?_
  refine ite_congr rfl (fun c5_ => ?_) (fun c5_ => ?_)
  · refine (R_aload_n zf81_61 rfl zlt_8 rfl).trans ?_
    refine (R_getR zf81_62 zo_81 zfl_0_24 zk1_8 zft_0_1 zmr_8_1 rfl).trans ?_
    refine (R_getR zf81_65 zo_81 zfl_0_47 zk1_6 zft_4_0 zmr_6_0 rfl).trans ?_
    refine (R_iconst zf81_68 zw_0 rfl).trans ?_
    refine (R_iload_n zf81_69 rfl rfl).trans ?_
    refine (R_iastc zf81_70 zk_23 (by decide) rfl rfl).trans ?_
    refine (R_aload_n zf81_71 rfl zlt_8 rfl).trans ?_
    refine (R_getR zf81_72 zo_81 zfl_0_24 zk1_8 zft_0_1 zmr_8_1 rfl).trans ?_
    refine (R_getR zf81_75 zo_81 zfl_0_47 zk1_6 zft_4_0 zmr_6_0 rfl).trans ?_
    refine (R_iconst zf81_78 zw_1 rfl).trans ?_
    refine (R_iload zf81_79 rfl rfl).trans ?_
    refine (R_iastc zf81_81 zk_23 (by decide) rfl rfl).trans ?_
    refine (R_aload_n zf81_82 rfl zlt_8 rfl).trans ?_
    refine (R_getR zf81_83 zo_81 zfl_0_24 zk1_8 zft_0_1 zmr_8_1 rfl).trans ?_
    refine (R_getR zf81_86 zo_81 zfl_0_47 zk1_6 zft_4_0 zmr_6_0 rfl).trans ?_
    refine (R_iconst zf81_89 zw_2 rfl).trans ?_
    refine (R_iload zf81_90 rfl rfl).trans ?_
    refine (R_iastc zf81_92 zk_23 (by decide) rfl rfl).trans ?_
    refine (R_aload_n zf81_93 rfl zlt_8 rfl).trans ?_
    refine (R_getR zf81_94 zo_81 zfl_0_24 zk1_8 zft_0_1 zmr_8_1 rfl).trans ?_
    refine (R_getR zf81_97 zo_81 zfl_0_47 zk1_6 zft_4_0 zmr_6_0 rfl).trans ?_
    refine (R_iconst zf81_100 zw_3 rfl).trans ?_
    refine (R_iload zf81_101 rfl rfl).trans ?_
    refine (R_iastc zf81_103 zk_23 (by decide) rfl rfl).trans ?_
    refine (R_aload_n zf81_104 rfl zlt_8 rfl).trans ?_
    refine (R_getR zf81_105 zo_81 zfl_0_24 zk1_8 zft_0_1 zmr_8_1 rfl).trans ?_
    refine (R_getR zf81_108 zo_81 zfl_0_47 zk1_6 zft_4_0 zmr_6_0 rfl).trans ?_
    refine (R_iconst zf81_111 zw_4 rfl).trans ?_
    refine (R_aload_n zf81_112 rfl zlt_8 rfl).trans ?_
    refine (R_getR zf81_113 zo_81 zfl_0_20 zk1_8 zft_0_0 zmr_8_0 rfl).trans ?_
    refine (R_iload_n zf81_116 rfl rfl).trans ?_
    refine (R_vcallI zf81_117 zo_81 zvl_0_50 (by rw [zr_83]; rfl) zl_83 (Nat.le_of_ble_eq_true rfl) rfl rfl (Nat.le_of_ble_eq_true rfl) (Nat.le_of_ble_eq_true rfl) (es := [.inr (.inr (.inl 2)), .inl x0]) rfl rfl zk1_2 zo_83).trans ?_
    refine congrArg (cI _) (funext fun a7_ => funext fun h6_ => ?_)
    refine (R_iastc zf81_120 zk_23 (by decide) rfl rfl).trans ?_
    refine (R_aload_n zf81_121 rfl zlt_8 rfl).trans ?_
    refine (R_getR zf81_122 zo_81 zfl_0_24 zk1_8 zft_0_1 zmr_8_1 rfl).trans ?_
    refine (R_getR zf81_125 zo_81 zfl_0_47 zk1_6 zft_4_0 zmr_6_0 rfl).trans ?_
    refine (R_iconst zf81_128 zw_5 rfl).trans ?_
    refine (R_iload zf81_129 rfl rfl).trans ?_
    refine (R_iastc zf81_131 zk_23 (by decide) rfl rfl).trans ?_
    refine (R_aload_n zf81_132 rfl zlt_8 rfl).trans ?_
    refine (R_getR zf81_133 zo_81 zfl_0_24 zk1_8 zft_0_1 zmr_8_1 rfl).trans ?_
    refine (R_vcallI zf81_136 zo_81 zvl_0_53 (by rw [zr_84]; rfl) zl_84 (Nat.le_of_ble_eq_true rfl) rfl rfl (Nat.le_of_ble_eq_true rfl) (Nat.le_of_ble_eq_true rfl) (es := [.inr (.inr (.inl 6)), vU, vU, vU, vU, vU]) rfl rfl zk1_6 zo_84).trans ?_
    refine congrArg (cI _) (funext fun a9_ => funext fun h8_ => ?_)
    refine (R_istore (ls' := [.inr (.inr (.inl 8)), .inl x0, .inl x1, .inl x2, .inl x3, .inl x4, .inl a2_, .inl a4_, .inl a9_]) zf81_139 (Nat.le_of_ble_eq_true rfl) rfl rfl).trans ?_
    refine (R_iconst zf81_141 zw_0 rfl).trans ?_
    refine (R_bipush zf81_142 zb_60 rfl).trans ?_
    refine (R_iload zf81_144 rfl rfl).trans ?_
    refine (R_mmin zf81_146 zo_81 zsl_0_57 zml_0_57 zna_0_57 (Nat.le_of_ble_eq_true rfl) rfl).trans ?_
    refine (R_mmax zf81_149 zo_81 zsl_0_63 zml_0_63 zna_0_63 (Nat.le_of_ble_eq_true rfl) rfl).trans ?_
    exact R_ireturn_i zf81_152 zr_81
  · refine (R_iload zf81_31 rfl rfl).trans ?_
    refine (R_if_ne (t := 40) zf81_33 rfl rfl).trans ?_
    refine ite_congr rfl (fun c10_ => ?_) (fun c10_ => ?_)
    · refine (R_bipush zf81_40 zb_6 rfl).trans ?_
      refine (R_iload_n zf81_42 rfl rfl).trans ?_
      refine (R_imul zf81_43 rfl).trans ?_
      refine (R_iload zf81_44 rfl rfl).trans ?_
      refine (R_idiv0 zf81_46 rfl).trans ?_
      refine ite_congr rfl (fun _ => rfl) (fun _ => ?_)
      refine (R_iload zf81_47 rfl rfl).trans ?_
      refine (R_iadd zf81_49 rfl).trans ?_
      refine (R_iload zf81_50 rfl rfl).trans ?_
      refine (R_iadd zf81_52 rfl).trans ?_
      refine (R_iload zf81_53 rfl rfl).trans ?_
      refine (R_isub zf81_55 rfl).trans ?_
      refine (R_istore (ls' := [.inr (.inr (.inl 8)), .inl x0, .inl x1, .inl x2, .inl x3, .inl x4, .inl a2_, .inl a4_, .inl (wI ((wI ((wI ((wI ((wI (6 * x2)).tdiv a2_)) + a4_)) + x3)) - x4))]) zf81_56 (Nat.le_of_ble_eq_true rfl) rfl rfl).trans ?_
      refine (R_goto (t := 141) zf81_58 rfl).trans ?_
      refine (R_iconst zf81_141 zw_0 rfl).trans ?_
      refine (R_bipush zf81_142 zb_60 rfl).trans ?_
      refine (R_iload zf81_144 rfl rfl).trans ?_
      refine (R_mmin zf81_146 zo_81 zsl_0_57 zml_0_57 zna_0_57 (Nat.le_of_ble_eq_true rfl) rfl).trans ?_
      refine (R_mmax zf81_149 zo_81 zsl_0_63 zml_0_63 zna_0_63 (Nat.le_of_ble_eq_true rfl) rfl).trans ?_
      exact R_ireturn_i zf81_152 zr_81
    · refine (R_iconst zf81_36 zw_0 rfl).trans ?_
      refine (R_goto (t := 47) zf81_37 rfl).trans ?_
      refine (R_iload zf81_47 rfl rfl).trans ?_
      refine (R_iadd zf81_49 rfl).trans ?_
      refine (R_iload zf81_50 rfl rfl).trans ?_
      refine (R_iadd zf81_52 rfl).trans ?_
      refine (R_iload zf81_53 rfl rfl).trans ?_
      refine (R_isub zf81_55 rfl).trans ?_
      refine (R_istore (ls' := [.inr (.inr (.inl 8)), .inl x0, .inl x1, .inl x2, .inl x3, .inl x4, .inl a2_, .inl a4_, .inl (wI ((wI ((wI (0 + a4_)) + x3)) - x4))]) zf81_56 (Nat.le_of_ble_eq_true rfl) rfl rfl).trans ?_
      refine (R_goto (t := 141) zf81_58 rfl).trans ?_
      refine (R_iconst zf81_141 zw_0 rfl).trans ?_
      refine (R_bipush zf81_142 zb_60 rfl).trans ?_
      refine (R_iload zf81_144 rfl rfl).trans ?_
      refine (R_mmin zf81_146 zo_81 zsl_0_57 zml_0_57 zna_0_57 (Nat.le_of_ble_eq_true rfl) rfl).trans ?_
      refine (R_mmax zf81_149 zo_81 zsl_0_63 zml_0_63 zna_0_63 (Nat.le_of_ble_eq_true rfl) rfl).trans ?_
      exact R_ireturn_i zf81_152 zr_81
-- CannonPost$Flight.comeTo(III)I at 0
theorem q86_0 (d : Nat) (x0 : Int) (x1 : Int) (x2 : Int) (h : MH) : Run d 86 0 [.inl x0, .inl x1, .inl x2] [] h = (if ¬ x2 = 0 then some (some (.inl (wI (x0 - x1))), h) else some (some (.inl (wI (x0 + x1))), h)) := by
  refine (R_iload_n zf86_0 rfl rfl).trans ?_
  refine (R_if_ne (t := 10) zf86_1 rfl rfl).trans ?_
  refine ite_congr rfl (fun c1_ => ?_) (fun c1_ => ?_)
  · refine (R_iload_n zf86_10 rfl rfl).trans ?_
    refine (R_iload_n zf86_11 rfl rfl).trans ?_
    refine (R_isub zf86_12 rfl).trans ?_
    exact R_ireturn_i zf86_13 zr_86
  · refine (R_iload_n zf86_4 rfl rfl).trans ?_
    refine (R_iload_n zf86_5 rfl rfl).trans ?_
    refine (R_iadd zf86_6 rfl).trans ?_
    refine (R_goto (t := 13) zf86_7 rfl).trans ?_
    exact R_ireturn_i zf86_13 zr_86
-- CannonPost$League.fortNear(I)I at 9
theorem q87_9 (d : Nat) (x0 : Int) (x1 : Int) (x2 : Int) (z3 : MV) (hz3 : cat z3 = 1) (h : MH) : Run (d + 1) 87 9 [.inr (.inr (.inl 2)), .inl x0, .inl x1, .inl x2, z3] [] h = (if x2 < 0 then some (some (.inl x1), h) else (cI (Run d 18 0 [.inr (.inr (.inl 2)), .inl x2] [] h) fun a3_ h2_ => (if ¬ (wI (a3_ - x0)) = 0 then (if (wI (a3_ - x0)) = 1 then Run (d + 1) 87 9 [.inr (.inr (.inl 2)), .inl x0, .inl x2, .inl (wI (x2 + (-1))), .inl (wI (a3_ - x0))] [] h2_ else (if ¬ (wI (a3_ - x0)) = (-1) then Run (d + 1) 87 9 [.inr (.inr (.inl 2)), .inl x0, .inl x1, .inl (wI (x2 + (-1))), .inl (wI (a3_ - x0))] [] h2_ else Run (d + 1) 87 9 [.inr (.inr (.inl 2)), .inl x0, .inl x2, .inl (wI (x2 + (-1))), .inl (wI (a3_ - x0))] [] h2_)) else some (some (.inl x2), h2_)))) := by
  refine (R_iload_n zf87_9 rfl rfl).trans ?_
  refine (R_if_lt (t := 49) zf87_10 rfl rfl).trans ?_
  refine ite_congr rfl (fun c1_ => ?_) (fun c1_ => ?_)
  · refine (R_iload_n zf87_49 rfl rfl).trans ?_
    exact R_ireturn_i zf87_50 zr_87
  · refine (R_aload_n zf87_13 rfl zlt_2 rfl).trans ?_
    refine (R_iload_n zf87_14 rfl rfl).trans ?_
    refine (R_vcallI zf87_15 zo_87 zvl_5_34 (by rw [zr_18]; rfl) zl_18 (Nat.le_of_ble_eq_true rfl) rfl rfl (Nat.le_of_ble_eq_true rfl) (Nat.le_of_ble_eq_true rfl) (es := [.inr (.inr (.inl 2)), .inl x2]) rfl rfl zk1_2 zo_18).trans ?_
    refine congrArg (cI _) (funext fun a3_ => funext fun h2_ => ?_)
    refine (R_iload_n zf87_18 rfl rfl).trans ?_
    refine (R_isub zf87_19 rfl).trans ?_
    refine (R_istore (ls' := [.inr (.inr (.inl 2)), .inl x0, .inl x1, .inl x2, .inl (wI (a3_ - x0))]) zf87_20 (Nat.le_of_ble_eq_true rfl) rfl rfl).trans ?_
    refine (R_iload zf87_22 rfl rfl).trans ?_
    refine (R_if_ne (t := 29) zf87_24 rfl rfl).trans ?_
    refine ite_congr rfl (fun c4_ => ?_) (fun c4_ => ?_)
    · refine (R_iload zf87_29 rfl rfl).trans ?_
      refine (R_iconst zf87_31 zw_1 rfl).trans ?_
      refine (R_icmp_eq (t := 41) zf87_32 rfl rfl).trans ?_
      refine ite_congr rfl (fun c5_ => ?_) (fun c5_ => ?_)
      · refine (R_iload_n zf87_41 rfl rfl).trans ?_
        refine (R_istore_n (ls' := [.inr (.inr (.inl 2)), .inl x0, .inl x2, .inl x2, .inl (wI (a3_ - x0))]) zf87_42 (Nat.le_of_ble_eq_true rfl) rfl rfl).trans ?_
        refine (R_iinc (ls' := [.inr (.inr (.inl 2)), .inl x0, .inl x2, .inl (wI (x2 + (-1))), .inl (wI (a3_ - x0))]) zf87_43 rfl rfl rfl).trans ?_
        refine (R_goto (t := 9) zf87_46 rfl).trans ?_
        rfl
      · refine (R_iload zf87_35 rfl rfl).trans ?_
        refine (R_iconst zf87_37 zw_m1 rfl).trans ?_
        refine (R_icmp_ne (t := 43) zf87_38 rfl rfl).trans ?_
        refine ite_congr rfl (fun c6_ => ?_) (fun c6_ => ?_)
        · refine (R_iinc (ls' := [.inr (.inr (.inl 2)), .inl x0, .inl x1, .inl (wI (x2 + (-1))), .inl (wI (a3_ - x0))]) zf87_43 rfl rfl rfl).trans ?_
          refine (R_goto (t := 9) zf87_46 rfl).trans ?_
          rfl
        · refine (R_iload_n zf87_41 rfl rfl).trans ?_
          refine (R_istore_n (ls' := [.inr (.inr (.inl 2)), .inl x0, .inl x2, .inl x2, .inl (wI (a3_ - x0))]) zf87_42 (Nat.le_of_ble_eq_true rfl) rfl rfl).trans ?_
          refine (R_iinc (ls' := [.inr (.inr (.inl 2)), .inl x0, .inl x2, .inl (wI (x2 + (-1))), .inl (wI (a3_ - x0))]) zf87_43 rfl rfl rfl).trans ?_
          refine (R_goto (t := 9) zf87_46 rfl).trans ?_
          rfl
    · refine (R_iload_n zf87_27 rfl rfl).trans ?_
      exact R_ireturn_i zf87_28 zr_87
-- CannonPost$Flight.reckon(LCannonPost$State;II)V at 0
theorem q126_0 (d : Nat) (x0 : Int) (x1 : Int) (h : MH) : Run (d + 1) 126 0 [.inr (.inr (.inl 8)), .inr (.inr (.inl 12)), .inl x0, .inl x1, vU, vU, vU, vU, vU, vU] [] h = Run (d + 1) 126 14 [.inr (.inr (.inl 8)), .inr (.inr (.inl 12)), .inl x0, .inl x1, .inl (wI ((wI ((wI (x0 * 8)) + x1)) * 8)), .inl 0, vU, vU, vU, vU] [] h := by
  refine (R_iload_n zf126_0 rfl rfl).trans ?_
  refine (R_bipush zf126_1 zb_8 rfl).trans ?_
  refine (R_imul zf126_3 rfl).trans ?_
  refine (R_iload_n zf126_4 rfl rfl).trans ?_
  refine (R_iadd zf126_5 rfl).trans ?_
  refine (R_bipush zf126_6 zb_8 rfl).trans ?_
  refine (R_imul zf126_8 rfl).trans ?_
  refine (R_istore (ls' := [.inr (.inr (.inl 8)), .inr (.inr (.inl 12)), .inl x0, .inl x1, .inl (wI ((wI ((wI (x0 * 8)) + x1)) * 8)), vU, vU, vU, vU, vU]) zf126_9 (Nat.le_of_ble_eq_true rfl) rfl rfl).trans ?_
  refine (R_iconst zf126_11 zw_0 rfl).trans ?_
  refine (R_istore (ls' := [.inr (.inr (.inl 8)), .inr (.inr (.inl 12)), .inl x0, .inl x1, .inl (wI ((wI ((wI (x0 * 8)) + x1)) * 8)), .inl 0, vU, vU, vU, vU]) zf126_12 (Nat.le_of_ble_eq_true rfl) rfl rfl).trans ?_
  rfl
-- java/util/Arrays.fill([II)V at 0
theorem q48_0 (d : Nat) (x0 : Int) (h : MH) : Run d 48 0 [.inr (.inr (.inl 40)), .inl x0, vU, vU] [] h = Run d 48 5 [.inr (.inr (.inl 40)), .inl x0, .inl 0, .inl 8] [] h := by
  refine (R_iconst zf48_0 zw_0 rfl).trans ?_
  refine (R_istore_n (ls' := [.inr (.inr (.inl 40)), .inl x0, .inl 0, vU]) zf48_1 (Nat.le_of_ble_eq_true rfl) rfl rfl).trans ?_
  refine (R_aload_n zf48_2 rfl zlt_40 rfl).trans ?_
  refine (R_len100 (v := 8) zf48_3 zk_40 rfl rfl).trans ?_
  refine (R_istore_n (ls' := [.inr (.inr (.inl 40)), .inl x0, .inl 0, .inl 8]) zf48_4 (Nat.le_of_ble_eq_true rfl) rfl rfl).trans ?_
  rfl
-- CannonPost$Paths.trace(LCannonPost$State;II)V at 32
theorem q128_32 (d : Nat) (x0 : Int) (z1 : MV) (hz1 : cat z1 = 1) (x2 : Int) (z3 : MV) (hz3 : cat z3 = 1) (z4 : MV) (hz4 : cat z4 = 1) (z5 : MV) (hz5 : cat z5 = 1) (h : MH) : Run (d + 1) 128 32 [.inr (.inr (.inl 9)), .inr (.inr (.inl 12)), .inl x0, z1, .inl x2, z3, z4, z5] [] h = (if (h 2 3) ≤ x2 then some (none, h) else Run (d + 1) 128 47 [.inr (.inr (.inl 9)), .inr (.inr (.inl 12)), .inl x0, z1, .inl x2, .inl 0, z4, z5] [] h) := by
  refine (R_iload zf128_32 rfl rfl).trans ?_
  refine (R_aload_n zf128_34 rfl zlt_9 rfl).trans ?_
  refine (R_getR zf128_35 zo_128 zfl_7_29 zk1_9 zft_7_5 zmr_9_5 rfl).trans ?_
  refine (R_getI zf128_38 zo_128 zfl_7_43 zk1_2 zft_5_3 rfl).trans ?_
  refine (R_icmp_ge (t := 185) zf128_41 rfl rfl).trans ?_
  refine ite_congr rfl (fun c1_ => ?_) (fun c1_ => ?_)
  · exact R_return zf128_185 zr_128
  · refine (R_iconst zf128_44 zw_0 rfl).trans ?_
    refine (R_istore (ls' := [.inr (.inr (.inl 9)), .inr (.inr (.inl 12)), .inl x0, z1, .inl x2, .inl 0, z4, z5]) zf128_45 (Nat.le_of_ble_eq_true rfl) rfl rfl).trans ?_
    rfl
-- CannonPost$State.fortsKnowing(II)I at 5
theorem q131_5 (d : Nat) (x0 : Int) (x1 : Int) (x2 : Int) (x3 : Int) (h : MH) : Run d 131 5 [.inr (.inr (.inl 12)), .inl x0, .inl x1, .inl x2, .inl x3] [] h = (if x1 ≤ x3 then some (some (.inl x2), h) else (if 0 ≤ (wI (29 + x3)) ∧ (wI (29 + x3)) < 37 then Run d 131 5 [.inr (.inr (.inl 12)), .inl x0, .inl x1, .inl (iOr x2 (iShl (iAnd (iShr (h 91 (wI (29 + x3)).toNat) x0) 1) x3)), .inl (wI (x3 + 1))] [] h else none)) := by
  refine (R_iload zf131_5 rfl rfl).trans ?_
  refine (R_iload_n zf131_7 rfl rfl).trans ?_
  refine (R_icmp_ge (t := 37) zf131_8 rfl rfl).trans ?_
  refine ite_congr rfl (fun c1_ => ?_) (fun c1_ => ?_)
  · refine (R_iload_n zf131_37 rfl rfl).trans ?_
    exact R_ireturn_i zf131_38 zr_131
  · refine (R_iload_n zf131_11 rfl rfl).trans ?_
    refine (R_aload_n zf131_12 rfl zlt_12 rfl).trans ?_
    refine (R_getR zf131_13 zo_131 zfl_9_15 zk1_12 zft_9_0 zmr_12_0 rfl).trans ?_
    refine (R_bipush zf131_16 zb_29 rfl).trans ?_
    refine (R_iload zf131_18 rfl rfl).trans ?_
    refine (R_iadd zf131_20 rfl).trans ?_
    refine (R_iald zf131_21 zk_91 rfl).trans ?_
    refine ite_congr rfl (fun c2_ => ?_) (fun _ => rfl)
    refine (R_iload_n zf131_22 rfl rfl).trans ?_
    refine (R_ishr zf131_23 rfl).trans ?_
    refine (R_iconst zf131_24 zw_1 rfl).trans ?_
    refine (R_iand zf131_25 rfl).trans ?_
    refine (R_iload zf131_26 rfl rfl).trans ?_
    refine (R_ishl zf131_28 rfl).trans ?_
    refine (R_ior zf131_29 rfl).trans ?_
    refine (R_istore_n (ls' := [.inr (.inr (.inl 12)), .inl x0, .inl x1, .inl (iOr x2 (iShl (iAnd (iShr (h 91 (wI (29 + x3)).toNat) x0) 1) x3)), .inl x3]) zf131_30 (Nat.le_of_ble_eq_true rfl) rfl rfl).trans ?_
    refine (R_iinc (ls' := [.inr (.inr (.inl 12)), .inl x0, .inl x1, .inl (iOr x2 (iShl (iAnd (iShr (h 91 (wI (29 + x3)).toNat) x0) 1) x3)), .inl (wI (x3 + 1))]) zf131_31 rfl rfl rfl).trans ?_
    refine (R_goto (t := 5) zf131_34 rfl).trans ?_
    rfl
-- CannonPost$Paths.bestRelay(LCannonPost$State;II)I at 28
theorem q132_28 (d : Nat) (x0 : Int) (x1 : Int) (x2 : Int) (z3 : MV) (hz3 : cat z3 = 1) (h : MH) : Run (d + 1) 132 28 [.inr (.inr (.inl 9)), .inr (.inr (.inl 12)), .inl x0, .inl x1, .inl x2, z3] [] h = (if 3 < x2 then some (some (.inl (-1)), h) else (if x0 = 0 then some (some (.inl (-1)), h) else (cI (Run d 133 0 [.inr (.inr (.inl 9)), .inr (.inr (.inl 12)), .inl x2, .inl x0, .inl x1, vU, vU, vU, vU] [] h) fun a4_ h3_ => (if a4_ = (-1) then Run (d + 1) 132 28 [.inr (.inr (.inl 9)), .inr (.inr (.inl 12)), .inl x0, .inl x1, .inl (wI (x2 + 1)), .inl a4_] [] h3_ else some (some (.inl (wI ((wI (x2 * 100)) + a4_))), h3_))))) := by
  refine (R_iload zf132_28 rfl rfl).trans ?_
  refine (R_iconst zf132_30 zw_3 rfl).trans ?_
  refine (R_icmp_gt (t := 70) zf132_31 rfl rfl).trans ?_
  refine ite_congr rfl (fun c1_ => ?_) (fun c1_ => ?_)
  · refine (R_iconst zf132_70 zw_m1 rfl).trans ?_
    exact R_ireturn_i zf132_71 zr_132
  · refine (R_iload_n zf132_34 rfl rfl).trans ?_
    refine (R_if_eq (t := 70) zf132_35 rfl rfl).trans ?_
    refine ite_congr rfl (fun c2_ => ?_) (fun c2_ => ?_)
    · refine (R_iconst zf132_70 zw_m1 rfl).trans ?_
      exact R_ireturn_i zf132_71 zr_132
    · refine (R_aload_n zf132_38 rfl zlt_9 rfl).trans ?_
      refine (R_aload_n zf132_39 rfl zlt_12 rfl).trans ?_
      refine (R_iload zf132_40 rfl rfl).trans ?_
      refine (R_iload_n zf132_42 rfl rfl).trans ?_
      refine (R_iload_n zf132_43 rfl rfl).trans ?_
      refine (R_vcallI zf132_44 zo_132 zvl_7_68 (by rw [zr_133]; rfl) zl_133 (Nat.le_of_ble_eq_true rfl) rfl rfl (Nat.le_of_ble_eq_true rfl) (Nat.le_of_ble_eq_true rfl) (es := [.inr (.inr (.inl 9)), .inr (.inr (.inl 12)), .inl x2, .inl x0, .inl x1, vU, vU, vU, vU]) rfl rfl zk1_9 zo_133).trans ?_
      refine congrArg (cI _) (funext fun a4_ => funext fun h3_ => ?_)
      refine (R_istore (ls' := [.inr (.inr (.inl 9)), .inr (.inr (.inl 12)), .inl x0, .inl x1, .inl x2, .inl a4_]) zf132_47 (Nat.le_of_ble_eq_true rfl) rfl rfl).trans ?_
      refine (R_iload zf132_49 rfl rfl).trans ?_
      refine (R_iconst zf132_51 zw_m1 rfl).trans ?_
      refine (R_icmp_eq (t := 64) zf132_52 rfl rfl).trans ?_
      refine ite_congr rfl (fun c5_ => ?_) (fun c5_ => ?_)
      · refine (R_iinc (ls' := [.inr (.inr (.inl 9)), .inr (.inr (.inl 12)), .inl x0, .inl x1, .inl (wI (x2 + 1)), .inl a4_]) zf132_64 rfl rfl rfl).trans ?_
        refine (R_goto (t := 28) zf132_67 rfl).trans ?_
        rfl
      · refine (R_iload zf132_55 rfl rfl).trans ?_
        refine (R_bipush zf132_57 zb_100 rfl).trans ?_
        refine (R_imul zf132_59 rfl).trans ?_
        refine (R_iload zf132_60 rfl rfl).trans ?_
        refine (R_iadd zf132_62 rfl).trans ?_
        exact R_ireturn_i zf132_63 zr_132
-- CannonPost.partsRight(III)I at 36
theorem q136_36 (d : Nat) (x0 : Int) (z1 : MV) (hz1 : cat z1 = 1) (x2 : Int) (x3 : Int) (z4 : MV) (hz4 : cat z4 = 1) (x5 : Int) (h : MH) : Run (d + 1) 136 36 [.inr (.inr (.inl 0)), .inl x0, z1, .inl x2, .inr (.inl x3), z4, .inl x5] [] h = (if 0 ≤ x2 ∧ x2 < 8 then (if (h 40 x2.toNat) ≤ x5 then some (some (.inl (wI x3)), h) else (cI (Run d 83 0 [.inr (.inr (.inl 2)), .inl x0] [] h) fun a4_ h3_ => Run (d + 1) 136 36 [.inr (.inr (.inl 0)), .inl x0, z1, .inl x2, .inr (.inl (wL ((wL (x3 * (wI (a4_ + 1)))).tdiv 10))), vU, .inl (wI (x5 + 1))] [] h3_)) else none) := by
  refine (R_iload zf136_36 rfl rfl).trans ?_
  refine (R_aload_n zf136_38 rfl zlt_0 rfl).trans ?_
  refine (R_getR zf136_39 zo_136 zfl_11_67 zk1_0 zft_11_7 zmr_0_7 rfl).trans ?_
  refine (R_getR zf136_42 zo_136 zfl_11_344 zk1_9 zft_7_0 zmr_9_0 rfl).trans ?_
  refine (R_iload_n zf136_45 rfl rfl).trans ?_
  refine (R_iald zf136_46 zk_40 rfl).trans ?_
  refine ite_congr rfl (fun c1_ => ?_) (fun _ => rfl)
  refine (R_icmp_ge (t := 76) zf136_47 rfl rfl).trans ?_
  refine ite_congr rfl (fun c2_ => ?_) (fun c2_ => ?_)
  · refine (R_lload zf136_76 rfl rfl).trans ?_
    refine (R_l2i zf136_78 rfl).trans ?_
    exact R_ireturn_i zf136_79 zr_136
  · refine (R_lload zf136_50 rfl rfl).trans ?_
    refine (R_aload_n zf136_52 rfl zlt_0 rfl).trans ?_
    refine (R_getR zf136_53 zo_136 zfl_11_19 zk1_0 zft_11_1 zmr_0_1 rfl).trans ?_
    refine (R_iload_n zf136_56 rfl rfl).trans ?_
    refine (R_vcallI zf136_57 zo_136 zvl_11_191 (by rw [zr_83]; rfl) zl_83 (Nat.le_of_ble_eq_true rfl) rfl rfl (Nat.le_of_ble_eq_true rfl) (Nat.le_of_ble_eq_true rfl) (es := [.inr (.inr (.inl 2)), .inl x0]) rfl rfl zk1_2 zo_83).trans ?_
    refine congrArg (cI _) (funext fun a4_ => funext fun h3_ => ?_)
    refine (R_iconst zf136_60 zw_1 rfl).trans ?_
    refine (R_iadd zf136_61 rfl).trans ?_
    refine (R_i2l zf136_62 rfl).trans ?_
    refine (R_lmul zf136_63 rfl).trans ?_
    refine (R_ldc2_w zf136_64 zo_136 zll_11_365 rfl).trans ?_
    refine (R_ldiv zf136_67 (by decide) rfl).trans ?_
    refine (R_lstore (ls' := [.inr (.inr (.inl 0)), .inl x0, z1, .inl x2, .inr (.inl (wL ((wL (x3 * (wI (a4_ + 1)))).tdiv 10))), vU, .inl x5]) zf136_68 (Nat.le_of_ble_eq_true rfl) rfl rfl).trans ?_
    refine (R_iinc (ls' := [.inr (.inr (.inl 0)), .inl x0, z1, .inl x2, .inr (.inl (wL ((wL (x3 * (wI (a4_ + 1)))).tdiv 10))), vU, .inl (wI (x5 + 1))]) zf136_70 rfl rfl rfl).trans ?_
    refine (R_goto (t := 36) zf136_73 rfl).trans ?_
    rfl
-- CannonPost$Paths.link(LCannonPost$State;)V at 2
theorem q139_2 (d : Nat) (x0 : Int) (z1 : MV) (hz1 : cat z1 = 1) (z2 : MV) (hz2 : cat z2 = 1) (h : MH) : Run (d + 1) 139 2 [.inr (.inr (.inl 9)), .inr (.inr (.inl 12)), .inl x0, z1, z2] [] h = (if (h 2 3) ≤ x0 then some (none, h) else (if 0 ≤ x0 ∧ x0 < 8 then Run (d + 1) 139 22 [.inr (.inr (.inl 9)), .inr (.inr (.inl 12)), .inl x0, .inl 0, z2] [] (up h 43 x0.toNat 0) else none)) := by
  refine (R_iload_n zf139_2 rfl rfl).trans ?_
  refine (R_aload_n zf139_3 rfl zlt_9 rfl).trans ?_
  refine (R_getR zf139_4 zo_139 zfl_7_29 zk1_9 zft_7_5 zmr_9_5 rfl).trans ?_
  refine (R_getI zf139_7 zo_139 zfl_7_43 zk1_2 zft_5_3 rfl).trans ?_
  refine (R_icmp_ge (t := 99) zf139_10 rfl rfl).trans ?_
  refine ite_congr rfl (fun c1_ => ?_) (fun c1_ => ?_)
  · exact R_return zf139_99 zr_139
  · refine (R_aload_n zf139_13 rfl zlt_9 rfl).trans ?_
    refine (R_getR zf139_14 zo_139 zfl_7_23 zk1_9 zft_7_3 zmr_9_3 rfl).trans ?_
    refine (R_iload_n zf139_17 rfl rfl).trans ?_
    refine (R_iconst zf139_18 zw_0 rfl).trans ?_
    refine (R_iast zf139_19 zk_43 rfl).trans ?_
    refine ite_congr rfl (fun c2_ => ?_) (fun _ => rfl)
    refine (R_iconst zf139_20 zw_0 rfl).trans ?_
    refine (R_istore_n (ls' := [.inr (.inr (.inl 9)), .inr (.inr (.inl 12)), .inl x0, .inl 0, z2]) zf139_21 (Nat.le_of_ble_eq_true rfl) rfl rfl).trans ?_
    rfl
-- CannonPost$Paths.netFrom(II)I at 21
theorem q140_21 (d : Nat) (z0 : MV) (hz0 : cat z0 = 1) (z1 : MV) (hz1 : cat z1 = 1) (x2 : Int) (x3 : Int) (x4 : Int) (z5 : MV) (hz5 : cat z5 = 1) (h : MH) : Run d 140 21 [.inr (.inr (.inl 9)), z0, z1, .inl x2, .inl x3, .inl x4, z5] [] h = (if (h 2 3) ≤ x4 then some (some (.inl x3), h) else Run d 140 36 [.inr (.inr (.inl 9)), z0, z1, .inl x2, .inl x3, .inl x4, .inl 0] [] h) := by
  refine (R_iload zf140_21 rfl rfl).trans ?_
  refine (R_aload_n zf140_23 rfl zlt_9 rfl).trans ?_
  refine (R_getR zf140_24 zo_140 zfl_7_29 zk1_9 zft_7_5 zmr_9_5 rfl).trans ?_
  refine (R_getI zf140_27 zo_140 zfl_7_43 zk1_2 zft_5_3 rfl).trans ?_
  refine (R_icmp_ge (t := 90) zf140_30 rfl rfl).trans ?_
  refine ite_congr rfl (fun c1_ => ?_) (fun c1_ => ?_)
  · refine (R_iload zf140_90 rfl rfl).trans ?_
    exact R_ireturn_i zf140_92 zr_140
  · refine (R_iconst zf140_33 zw_0 rfl).trans ?_
    refine (R_istore (ls' := [.inr (.inr (.inl 9)), z0, z1, .inl x2, .inl x3, .inl x4, .inl 0]) zf140_34 (Nat.le_of_ble_eq_true rfl) rfl rfl).trans ?_
    rfl
-- CannonPost$Guesses.weighWinds()V at 7
theorem q150_7 (d : Nat) (x0 : Int) (h : MH) : Run (d + 1) 150 7 [.inr (.inr (.inl 10)), .inl x0] [] h = (if 20 ≤ x0 then some (none, h) else (if x0 = 10 then Run (d + 1) 150 7 [.inr (.inr (.inl 10)), .inl (wI (x0 + 1))] [] h else (cI (Run d 151 0 [.inr (.inr (.inl 10)), .inl x0, vU, vU, vU, vU, vU] [] h) fun a4_ h3_ => (if a4_ = 0 then Run (d + 1) 150 7 [.inr (.inr (.inl 10)), .inl (wI (x0 + 1))] [] h3_ else (if 0 ≤ (h3_ 10 1) ∧ (h3_ 10 1) < 20 then Run (d + 1) 150 7 [.inr (.inr (.inl 10)), .inl (wI (x0 + 1))] [] (up (up h3_ 45 (h3_ 10 1).toNat x0) 10 1 (wI (((up h3_ 45 (h3_ 10 1).toNat x0) 10 1) + 1))) else none))))) := by
  refine (R_iload_n zf150_7 rfl rfl).trans ?_
  refine (R_bipush zf150_8 zb_20 rfl).trans ?_
  refine (R_icmp_ge (t := 53) zf150_10 rfl rfl).trans ?_
  refine ite_congr rfl (fun c1_ => ?_) (fun c1_ => ?_)
  · exact R_return zf150_53 zr_150
  · refine (R_iload_n zf150_13 rfl rfl).trans ?_
    refine (R_bipush zf150_14 zb_10 rfl).trans ?_
    refine (R_icmp_eq (t := 47) zf150_16 rfl rfl).trans ?_
    refine ite_congr rfl (fun c2_ => ?_) (fun c2_ => ?_)
    · refine (R_iinc (ls' := [.inr (.inr (.inl 10)), .inl (wI (x0 + 1))]) zf150_47 rfl rfl rfl).trans ?_
      refine (R_goto (t := 7) zf150_50 rfl).trans ?_
      rfl
    · refine (R_aload_n zf150_19 rfl zlt_10 rfl).trans ?_
      refine (R_iload_n zf150_20 rfl rfl).trans ?_
      refine (R_vcallI zf150_21 zo_150 zvl_1_48 (by rw [zr_151]; rfl) zl_151 (Nat.le_of_ble_eq_true rfl) rfl rfl (Nat.le_of_ble_eq_true rfl) (Nat.le_of_ble_eq_true rfl) (es := [.inr (.inr (.inl 10)), .inl x0, vU, vU, vU, vU, vU]) rfl rfl zk1_10 zo_151).trans ?_
      refine congrArg (cI _) (funext fun a4_ => funext fun h3_ => ?_)
      refine (R_if_eq (t := 47) zf150_24 rfl rfl).trans ?_
      refine ite_congr rfl (fun c5_ => ?_) (fun c5_ => ?_)
      · refine (R_iinc (ls' := [.inr (.inr (.inl 10)), .inl (wI (x0 + 1))]) zf150_47 rfl rfl rfl).trans ?_
        refine (R_goto (t := 7) zf150_50 rfl).trans ?_
        rfl
      · refine (R_aload_n zf150_27 rfl zlt_10 rfl).trans ?_
        refine (R_getR zf150_28 zo_150 zfl_1_11 zk1_10 zft_1_0 zmr_10_0 rfl).trans ?_
        refine (R_aload_n zf150_31 rfl zlt_10 rfl).trans ?_
        refine (R_getI zf150_32 zo_150 zfl_1_45 zk1_10 zft_1_1 rfl).trans ?_
        refine (R_iload_n zf150_35 rfl rfl).trans ?_
        refine (R_iast zf150_36 zk_45 rfl).trans ?_
        refine ite_congr rfl (fun c6_ => ?_) (fun _ => rfl)
        refine (R_aload_n zf150_37 rfl zlt_10 rfl).trans ?_
        refine (R_dup zf150_38 rfl rfl).trans ?_
        refine (R_getI zf150_39 zo_150 zfl_1_45 zk1_10 zft_1_1 rfl).trans ?_
        refine (R_iconst zf150_42 zw_1 rfl).trans ?_
        refine (R_iadd zf150_43 rfl).trans ?_
        refine (R_putI zf150_44 zo_150 zfl_1_45 zk1_10 zft_1_1 rfl).trans ?_
        refine (R_iinc (ls' := [.inr (.inr (.inl 10)), .inl (wI (x0 + 1))]) zf150_47 rfl rfl rfl).trans ?_
        refine (R_goto (t := 7) zf150_50 rfl).trans ?_
        rfl
-- CannonPost$Guesses.tellingShot(II)I at 13
theorem q154_13 (d : Nat) (x0 : Int) (x1 : Int) (x2 : Int) (x3 : Int) (x4 : Int) (z5 : MV) (hz5 : cat z5 = 1) (z6 : MV) (hz6 : cat z6 = 1) (h : MH) : Run (d + 1) 154 13 [.inr (.inr (.inl 10)), .inl x0, .inl x1, .inl x2, .inl x3, .inl x4, z5, z6] [] h = (if 1 < x4 then some (some (.inl x2), h) else (if (h 10 1) ≤ 0 then some (some (.inl x2), h) else Run (d + 1) 154 29 [.inr (.inr (.inl 10)), .inl x0, .inl x1, .inl x2, .inl x3, .inl x4, .inl 1, z6] [] h)) := by
  refine (R_iload zf154_13 rfl rfl).trans ?_
  refine (R_iconst zf154_15 zw_1 rfl).trans ?_
  refine (R_icmp_gt (t := 80) zf154_16 rfl rfl).trans ?_
  refine ite_congr rfl (fun c1_ => ?_) (fun c1_ => ?_)
  · refine (R_iload_n zf154_80 rfl rfl).trans ?_
    exact R_ireturn_i zf154_81 zr_154
  · refine (R_aload_n zf154_19 rfl zlt_10 rfl).trans ?_
    refine (R_getI zf154_20 zo_154 zfl_1_45 zk1_10 zft_1_1 rfl).trans ?_
    refine (R_if_le (t := 80) zf154_23 rfl rfl).trans ?_
    refine ite_congr rfl (fun c2_ => ?_) (fun c2_ => ?_)
    · refine (R_iload_n zf154_80 rfl rfl).trans ?_
      exact R_ireturn_i zf154_81 zr_154
    · refine (R_iconst zf154_26 zw_1 rfl).trans ?_
      refine (R_istore (ls' := [.inr (.inr (.inl 10)), .inl x0, .inl x1, .inl x2, .inl x3, .inl x4, .inl 1, z6]) zf154_27 (Nat.le_of_ble_eq_true rfl) rfl rfl).trans ?_
      rfl
-- CannonPost$Guesses.partsFor(I)I at 5
theorem q160_5 (d : Nat) (x0 : Int) (x1 : Int) (z2 : MV) (hz2 : cat z2 = 1) (x3 : Int) (h : MH) : Run (d + 1) 160 5 [.inr (.inr (.inl 10)), .inl x0, .inr (.inl x1), z2, .inl x3] [] h = (if (h 2 3) ≤ x3 then (if ¬ (cmpL x1 0) = 0 then (cJ (Run d 161 0 [.inr (.inr (.inl 10)), .inl x0, vU, vU, vU, vU] [] h) fun a4_ h3_ => (if x1 = 0 then none else some (some (.inl (wI (wL ((wL (a4_ * 1000000)).tdiv x1)))), h3_))) else some (some (.inl 0), h)) else (cJ (Run d 161 0 [.inr (.inr (.inl 10)), .inl x3, vU, vU, vU, vU] [] h) fun a6_ h5_ => Run (d + 1) 160 5 [.inr (.inr (.inl 10)), .inl x0, .inr (.inl (wL (x1 + a6_))), vU, .inl (wI (x3 + 1))] [] h5_)) := by
  refine (R_iload zf160_5 rfl rfl).trans ?_
  refine (R_aload_n zf160_7 rfl zlt_10 rfl).trans ?_
  refine (R_getR zf160_8 zo_160 zfl_1_30 zk1_10 zft_1_8 zmr_10_8 rfl).trans ?_
  refine (R_getI zf160_11 zo_160 zfl_1_88 zk1_2 zft_5_3 rfl).trans ?_
  refine (R_icmp_ge (t := 32) zf160_14 rfl rfl).trans ?_
  refine ite_congr rfl (fun c1_ => ?_) (fun c1_ => ?_)
  · refine (R_lload_n zf160_32 rfl rfl).trans ?_
    refine (R_lconst (v := 0) zf160_33 rfl rfl).trans ?_
    refine (R_lcmp zf160_34 rfl).trans ?_
    refine (R_if_ne (t := 42) zf160_35 rfl rfl).trans ?_
    refine ite_congr rfl (fun c2_ => ?_) (fun c2_ => ?_)
    · refine (R_aload_n zf160_42 rfl zlt_10 rfl).trans ?_
      refine (R_iload_n zf160_43 rfl rfl).trans ?_
      refine (R_vcallJ zf160_44 zo_160 zvl_1_91 zr_161 zl_161 (Nat.le_of_ble_eq_true rfl) rfl rfl (Nat.le_of_ble_eq_true rfl) (Nat.le_of_ble_eq_true rfl) (es := [.inr (.inr (.inl 10)), .inl x0, vU, vU, vU, vU]) rfl rfl zk1_10 zo_161).trans ?_
      refine congrArg (cJ _) (funext fun a4_ => funext fun h3_ => ?_)
      refine (R_ldc2_w zf160_47 zo_160 zll_1_95 rfl).trans ?_
      refine (R_lmul zf160_50 rfl).trans ?_
      refine (R_lload_n zf160_51 rfl rfl).trans ?_
      refine (R_ldiv0 zf160_52 rfl).trans ?_
      refine ite_congr rfl (fun _ => rfl) (fun _ => ?_)
      refine (R_l2i zf160_53 rfl).trans ?_
      exact R_ireturn_i zf160_54 zr_160
    · refine (R_iconst zf160_38 zw_0 rfl).trans ?_
      refine (R_goto (t := 54) zf160_39 rfl).trans ?_
      exact R_ireturn_i zf160_54 zr_160
  · refine (R_lload_n zf160_17 rfl rfl).trans ?_
    refine (R_aload_n zf160_18 rfl zlt_10 rfl).trans ?_
    refine (R_iload zf160_19 rfl rfl).trans ?_
    refine (R_vcallJ zf160_21 zo_160 zvl_1_91 zr_161 zl_161 (Nat.le_of_ble_eq_true rfl) rfl rfl (Nat.le_of_ble_eq_true rfl) (Nat.le_of_ble_eq_true rfl) (es := [.inr (.inr (.inl 10)), .inl x3, vU, vU, vU, vU]) rfl rfl zk1_10 zo_161).trans ?_
    refine congrArg (cJ _) (funext fun a6_ => funext fun h5_ => ?_)
    refine (R_ladd zf160_24 rfl).trans ?_
    refine (R_lstore_n (ls' := [.inr (.inr (.inl 10)), .inl x0, .inr (.inl (wL (x1 + a6_))), vU, .inl x3]) zf160_25 (Nat.le_of_ble_eq_true rfl) rfl rfl).trans ?_
    refine (R_iinc (ls' := [.inr (.inr (.inl 10)), .inl x0, .inr (.inl (wL (x1 + a6_))), vU, .inl (wI (x3 + 1))]) zf160_26 rfl rfl rfl).trans ?_
    refine (R_goto (t := 5) zf160_29 rfl).trans ?_
    rfl
-- CannonPost$Guesses.hasFaceOf(I)Z at 0
theorem q163_0 (d : Nat) (x0 : Int) (h : MH) : Run d 163 0 [.inr (.inr (.inl 10)), .inl x0, vU] [] h = Run d 163 2 [.inr (.inr (.inl 10)), .inl x0, .inl 0] [] h := by
  refine (R_iconst zf163_0 zw_0 rfl).trans ?_
  refine (R_istore_n (ls' := [.inr (.inr (.inl 10)), .inl x0, .inl 0]) zf163_1 (Nat.le_of_ble_eq_true rfl) rfl rfl).trans ?_
  rfl
-- CannonPost.gained(IIII)I at 13
theorem q166_13 (d : Nat) (x0 : Int) (x1 : Int) (x2 : Int) (x3 : Int) (z4 : MV) (hz4 : cat z4 = 1) (y5 : Int) (h : MH) : Run (d + 1) 166 13 [.inr (.inr (.inl 0)), .inl x0, .inl x1, .inl x2, .inl x3, z4] [.inl y5] h = (if ¬ x2 = 1 then (if ¬ (wI (x2 + x3)) = 2 then some (some (.inl y5), h) else some (some (.inl (wI (y5 - 2))), h)) else (cI (Run d 82 0 [.inr (.inr (.inl 2)), .inl x0] [] h) fun a4_ h3_ => (if ¬ (wI (x2 + x3)) = 2 then some (some (.inl (wI (y5 - (wI ((wI (x1.tdiv 2)) + (wI (a4_.tdiv 3))))))), h3_) else some (some (.inl (wI ((wI (y5 - (wI ((wI (x1.tdiv 2)) + (wI (a4_.tdiv 3)))))) - 2))), h3_)))) := by
  refine (R_istore (ls' := [.inr (.inr (.inl 0)), .inl x0, .inl x1, .inl x2, .inl x3, .inl y5]) zf166_13 (Nat.le_of_ble_eq_true rfl) rfl rfl).trans ?_
  refine (R_iload_n zf166_15 rfl rfl).trans ?_
  refine (R_iconst zf166_16 zw_1 rfl).trans ?_
  refine (R_icmp_ne (t := 39) zf166_17 rfl rfl).trans ?_
  refine ite_congr rfl (fun c1_ => ?_) (fun c1_ => ?_)
  · refine (R_iload_n zf166_39 rfl rfl).trans ?_
    refine (R_iload zf166_40 rfl rfl).trans ?_
    refine (R_iadd zf166_42 rfl).trans ?_
    refine (R_iconst zf166_43 zw_2 rfl).trans ?_
    refine (R_icmp_ne (t := 54) zf166_44 rfl rfl).trans ?_
    refine ite_congr rfl (fun c2_ => ?_) (fun c2_ => ?_)
    · refine (R_iload zf166_54 rfl rfl).trans ?_
      exact R_ireturn_i zf166_56 zr_166
    · refine (R_iload zf166_47 rfl rfl).trans ?_
      refine (R_iconst zf166_49 zw_2 rfl).trans ?_
      refine (R_isub zf166_50 rfl).trans ?_
      refine (R_goto (t := 56) zf166_51 rfl).trans ?_
      exact R_ireturn_i zf166_56 zr_166
  · refine (R_iload zf166_20 rfl rfl).trans ?_
    refine (R_iload_n zf166_22 rfl rfl).trans ?_
    refine (R_iconst zf166_23 zw_2 rfl).trans ?_
    refine (R_idiv zf166_24 (by decide) rfl).trans ?_
    refine (R_aload_n zf166_25 rfl zlt_0 rfl).trans ?_
    refine (R_getR zf166_26 zo_166 zfl_11_19 zk1_0 zft_11_1 zmr_0_1 rfl).trans ?_
    refine (R_iload_n zf166_29 rfl rfl).trans ?_
    refine (R_vcallI zf166_30 zo_166 zvl_11_188 (by rw [zr_82]; rfl) zl_82 (Nat.le_of_ble_eq_true rfl) rfl rfl (Nat.le_of_ble_eq_true rfl) (Nat.le_of_ble_eq_true rfl) (es := [.inr (.inr (.inl 2)), .inl x0]) rfl rfl zk1_2 zo_82).trans ?_
    refine congrArg (cI _) (funext fun a4_ => funext fun h3_ => ?_)
    refine (R_iconst zf166_33 zw_3 rfl).trans ?_
    refine (R_idiv zf166_34 (by decide) rfl).trans ?_
    refine (R_iadd zf166_35 rfl).trans ?_
    refine (R_isub zf166_36 rfl).trans ?_
    refine (R_istore (ls' := [.inr (.inr (.inl 0)), .inl x0, .inl x1, .inl x2, .inl x3, .inl (wI (y5 - (wI ((wI (x1.tdiv 2)) + (wI (a4_.tdiv 3))))))]) zf166_37 (Nat.le_of_ble_eq_true rfl) rfl rfl).trans ?_
    refine (R_iload_n zf166_39 rfl rfl).trans ?_
    refine (R_iload zf166_40 rfl rfl).trans ?_
    refine (R_iadd zf166_42 rfl).trans ?_
    refine (R_iconst zf166_43 zw_2 rfl).trans ?_
    refine (R_icmp_ne (t := 54) zf166_44 rfl rfl).trans ?_
    refine ite_congr rfl (fun c5_ => ?_) (fun c5_ => ?_)
    · refine (R_iload zf166_54 rfl rfl).trans ?_
      exact R_ireturn_i zf166_56 zr_166
    · refine (R_iload zf166_47 rfl rfl).trans ?_
      refine (R_iconst zf166_49 zw_2 rfl).trans ?_
      refine (R_isub zf166_50 rfl).trans ?_
      refine (R_goto (t := 56) zf166_51 rfl).trans ?_
      exact R_ireturn_i zf166_56 zr_166
-- CannonPost.rests(IIII)I at 33
theorem q167_33 (d : Nat) (x0 : Int) (x1 : Int) (x2 : Int) (x3 : Int) (x4 : Int) (x5 : Int) (x6 : Int) (z7 : MV) (hz7 : cat z7 = 1) (h : MH) : Run (d + 1) 167 33 [.inr (.inr (.inl 0)), .inl x0, .inl x1, .inl x2, .inl x3, .inl x4, .inl x5, .inl x6, z7] [] h = (if 1 < x6 then Run (d + 1) 167 24 [.inr (.inr (.inl 0)), .inl x0, .inl x1, .inl x2, .inl x3, .inl x4, .inl (wI (x5 + 1)), .inl x6, z7] [] h else (cI (Run d 166 0 [.inr (.inr (.inl 0)), .inl x0, .inl x2, .inl x5, .inl x6, vU] [] h) fun a3_ h2_ => (cI (Run d 166 0 [.inr (.inr (.inl 0)), .inl x0, .inl x2, .inl (wI (1 - x5)), .inl x6, vU] [] h2_) fun a5_ h4_ => (if a3_ < a5_ then Run (d + 1) 167 94 [.inr (.inr (.inl 0)), .inl x0, .inl x1, .inl x2, .inl x3, .inl x4, .inl x5, .inl x6, z7] [.inl 0] h4_ else (cI (Run d 166 0 [.inr (.inr (.inl 0)), .inl x1, .inl x2, .inl x6, .inl x5, vU] [] h4_) fun a8_ h7_ => (cI (Run d 166 0 [.inr (.inr (.inl 0)), .inl x1, .inl x2, .inl (wI (1 - x6)), .inl x5, vU] [] h7_) fun a10_ h9_ => (if a8_ < a10_ then Run (d + 1) 167 94 [.inr (.inr (.inl 0)), .inl x0, .inl x1, .inl x2, .inl x3, .inl x4, .inl x5, .inl x6, z7] [.inl 0] h9_ else Run (d + 1) 167 94 [.inr (.inr (.inl 0)), .inl x0, .inl x1, .inl x2, .inl x3, .inl x4, .inl x5, .inl x6, z7] [.inl 1] h9_))))))) := by
  refine (R_iload zf167_33 rfl rfl).trans ?_
  refine (R_iconst zf167_35 zw_1 rfl).trans ?_
  refine (R_icmp_gt (t := 138) zf167_36 rfl rfl).trans ?_
  refine ite_congr rfl (fun c1_ => ?_) (fun c1_ => ?_)
  · refine (R_iinc (ls' := [.inr (.inr (.inl 0)), .inl x0, .inl x1, .inl x2, .inl x3, .inl x4, .inl (wI (x5 + 1)), .inl x6, z7]) zf167_138 rfl rfl rfl).trans ?_
    refine (R_goto (t := 24) zf167_141 rfl).trans ?_
    rfl
  · refine (R_aload_n zf167_39 rfl zlt_0 rfl).trans ?_
    refine (R_iload_n zf167_40 rfl rfl).trans ?_
    refine (R_iload_n zf167_41 rfl rfl).trans ?_
    refine (R_iload zf167_42 rfl rfl).trans ?_
    refine (R_iload zf167_44 rfl rfl).trans ?_
    refine (R_vcallI zf167_46 zo_167 zvl_11_425 (by rw [zr_166]; rfl) zl_166 (Nat.le_of_ble_eq_true rfl) rfl rfl (Nat.le_of_ble_eq_true rfl) (Nat.le_of_ble_eq_true rfl) (es := [.inr (.inr (.inl 0)), .inl x0, .inl x2, .inl x5, .inl x6, vU]) rfl rfl zk1_0 zo_166).trans ?_
    refine congrArg (cI _) (funext fun a3_ => funext fun h2_ => ?_)
    refine (R_aload_n zf167_49 rfl zlt_0 rfl).trans ?_
    refine (R_iload_n zf167_50 rfl rfl).trans ?_
    refine (R_iload_n zf167_51 rfl rfl).trans ?_
    refine (R_iconst zf167_52 zw_1 rfl).trans ?_
    refine (R_iload zf167_53 rfl rfl).trans ?_
    refine (R_isub zf167_55 rfl).trans ?_
    refine (R_iload zf167_56 rfl rfl).trans ?_
    refine (R_vcallI zf167_58 zo_167 zvl_11_425 (by rw [zr_166]; rfl) zl_166 (Nat.le_of_ble_eq_true rfl) rfl rfl (Nat.le_of_ble_eq_true rfl) (Nat.le_of_ble_eq_true rfl) (es := [.inr (.inr (.inl 0)), .inl x0, .inl x2, .inl (wI (1 - x5)), .inl x6, vU]) rfl rfl zk1_0 zo_166).trans ?_
    refine congrArg (cI _) (funext fun a5_ => funext fun h4_ => ?_)
    refine (R_icmp_lt (t := 93) zf167_61 rfl rfl).trans ?_
    refine ite_congr rfl (fun c6_ => ?_) (fun c6_ => ?_)
    · refine (R_iconst zf167_93 zw_0 rfl).trans ?_
      rfl
    · refine (R_aload_n zf167_64 rfl zlt_0 rfl).trans ?_
      refine (R_iload_n zf167_65 rfl rfl).trans ?_
      refine (R_iload_n zf167_66 rfl rfl).trans ?_
      refine (R_iload zf167_67 rfl rfl).trans ?_
      refine (R_iload zf167_69 rfl rfl).trans ?_
      refine (R_vcallI zf167_71 zo_167 zvl_11_425 (by rw [zr_166]; rfl) zl_166 (Nat.le_of_ble_eq_true rfl) rfl rfl (Nat.le_of_ble_eq_true rfl) (Nat.le_of_ble_eq_true rfl) (es := [.inr (.inr (.inl 0)), .inl x1, .inl x2, .inl x6, .inl x5, vU]) rfl rfl zk1_0 zo_166).trans ?_
      refine congrArg (cI _) (funext fun a8_ => funext fun h7_ => ?_)
      refine (R_aload_n zf167_74 rfl zlt_0 rfl).trans ?_
      refine (R_iload_n zf167_75 rfl rfl).trans ?_
      refine (R_iload_n zf167_76 rfl rfl).trans ?_
      refine (R_iconst zf167_77 zw_1 rfl).trans ?_
      refine (R_iload zf167_78 rfl rfl).trans ?_
      refine (R_isub zf167_80 rfl).trans ?_
      refine (R_iload zf167_81 rfl rfl).trans ?_
      refine (R_vcallI zf167_83 zo_167 zvl_11_425 (by rw [zr_166]; rfl) zl_166 (Nat.le_of_ble_eq_true rfl) rfl rfl (Nat.le_of_ble_eq_true rfl) (Nat.le_of_ble_eq_true rfl) (es := [.inr (.inr (.inl 0)), .inl x1, .inl x2, .inl (wI (1 - x6)), .inl x5, vU]) rfl rfl zk1_0 zo_166).trans ?_
      refine congrArg (cI _) (funext fun a10_ => funext fun h9_ => ?_)
      refine (R_icmp_lt (t := 93) zf167_86 rfl rfl).trans ?_
      refine ite_congr rfl (fun c11_ => ?_) (fun c11_ => ?_)
      · refine (R_iconst zf167_93 zw_0 rfl).trans ?_
        rfl
      · refine (R_iconst zf167_89 zw_1 rfl).trans ?_
        refine (R_goto (t := 94) zf167_90 rfl).trans ?_
        rfl
-- CannonPost.hays(I)I at 74
theorem q169_74 (d : Nat) (x0 : Int) (x1 : Int) (x2 : Int) (x3 : Int) (h : MH) : Run (d + 1) 169 74 [.inr (.inr (.inl 0)), .inl x0, .inl x1, .inl x2, .inl x3] [] h = (if 60 < x3 then some (some (.inl (-1)), h) else (if (wI ((wI (x1 + (wI ((wI (x2 + x3)).tdiv 4)))) - (wI (x2.tdiv 4)))) < x0 then Run (d + 1) 169 74 [.inr (.inr (.inl 0)), .inl x0, .inl x1, .inl x2, .inl (wI (x3 + 1))] [] h else some (some (.inl x3), h))) := by
  refine (R_iload zf169_74 rfl rfl).trans ?_
  refine (R_bipush zf169_76 zb_60 rfl).trans ?_
  refine (R_icmp_gt (t := 106) zf169_78 rfl rfl).trans ?_
  refine ite_congr rfl (fun c1_ => ?_) (fun c1_ => ?_)
  · refine (R_iconst zf169_106 zw_m1 rfl).trans ?_
    exact R_ireturn_i zf169_107 zr_169
  · refine (R_iload_n zf169_81 rfl rfl).trans ?_
    refine (R_iload_n zf169_82 rfl rfl).trans ?_
    refine (R_iload zf169_83 rfl rfl).trans ?_
    refine (R_iadd zf169_85 rfl).trans ?_
    refine (R_iconst zf169_86 zw_4 rfl).trans ?_
    refine (R_idiv zf169_87 (by decide) rfl).trans ?_
    refine (R_iadd zf169_88 rfl).trans ?_
    refine (R_iload_n zf169_89 rfl rfl).trans ?_
    refine (R_iconst zf169_90 zw_4 rfl).trans ?_
    refine (R_idiv zf169_91 (by decide) rfl).trans ?_
    refine (R_isub zf169_92 rfl).trans ?_
    refine (R_iload_n zf169_93 rfl rfl).trans ?_
    refine (R_icmp_lt (t := 100) zf169_94 rfl rfl).trans ?_
    refine ite_congr rfl (fun c2_ => ?_) (fun c2_ => ?_)
    · refine (R_iinc (ls' := [.inr (.inr (.inl 0)), .inl x0, .inl x1, .inl x2, .inl (wI (x3 + 1))]) zf169_100 rfl rfl rfl).trans ?_
      refine (R_goto (t := 74) zf169_103 rfl).trans ?_
      rfl
    · refine (R_iload zf169_97 rfl rfl).trans ?_
      exact R_ireturn_i zf169_99 zr_169
-- CannonPost$League.nearestFort(I)I at 4
theorem q172_4 (d : Nat) (x0 : Int) (x1 : Int) (x2 : Int) (h : MH) : Run (d + 1) 172 4 [.inr (.inr (.inl 2)), .inl x0, .inl x1, .inl x2] [] h = (if (h 2 3) ≤ x2 then some (some (.inl x1), h) else (cI (Run d 18 0 [.inr (.inr (.inl 2)), .inl x2] [] h) fun a3_ h2_ => (cI (Run d 18 0 [.inr (.inr (.inl 2)), .inl x1] [] h2_) fun a5_ h4_ => (if 0 ≤ (cmpL (abL (wL (a3_ - x0))) (abL (wL (a5_ - x0)))) then Run (d + 1) 172 4 [.inr (.inr (.inl 2)), .inl x0, .inl x1, .inl (wI (x2 + 1))] [] h4_ else Run (d + 1) 172 4 [.inr (.inr (.inl 2)), .inl x0, .inl x2, .inl (wI (x2 + 1))] [] h4_)))) := by
  refine (R_iload_n zf172_4 rfl rfl).trans ?_
  refine (R_aload_n zf172_5 rfl zlt_2 rfl).trans ?_
  refine (R_getI zf172_6 zo_172 zfl_5_27 zk1_2 zft_5_3 rfl).trans ?_
  refine (R_icmp_ge (t := 48) zf172_9 rfl rfl).trans ?_
  refine ite_congr rfl (fun c1_ => ?_) (fun c1_ => ?_)
  · refine (R_iload_n zf172_48 rfl rfl).trans ?_
    exact R_ireturn_i zf172_49 zr_172
  · refine (R_aload_n zf172_12 rfl zlt_2 rfl).trans ?_
    refine (R_iload_n zf172_13 rfl rfl).trans ?_
    refine (R_vcallI zf172_14 zo_172 zvl_5_34 (by rw [zr_18]; rfl) zl_18 (Nat.le_of_ble_eq_true rfl) rfl rfl (Nat.le_of_ble_eq_true rfl) (Nat.le_of_ble_eq_true rfl) (es := [.inr (.inr (.inl 2)), .inl x2]) rfl rfl zk1_2 zo_18).trans ?_
    refine congrArg (cI _) (funext fun a3_ => funext fun h2_ => ?_)
    refine (R_i2l zf172_17 rfl).trans ?_
    refine (R_iload_n zf172_18 rfl rfl).trans ?_
    refine (R_i2l zf172_19 rfl).trans ?_
    refine (R_lsub zf172_20 rfl).trans ?_
    refine (R_mabsL zf172_21 zo_172 zsl_5_48 zml_5_48 zna_5_48 (Nat.le_of_ble_eq_true rfl) rfl).trans ?_
    refine (R_aload_n zf172_24 rfl zlt_2 rfl).trans ?_
    refine (R_iload_n zf172_25 rfl rfl).trans ?_
    refine (R_vcallI zf172_26 zo_172 zvl_5_34 (by rw [zr_18]; rfl) zl_18 (Nat.le_of_ble_eq_true rfl) rfl rfl (Nat.le_of_ble_eq_true rfl) (Nat.le_of_ble_eq_true rfl) (es := [.inr (.inr (.inl 2)), .inl x1]) rfl rfl zk1_2 zo_18).trans ?_
    refine congrArg (cI _) (funext fun a5_ => funext fun h4_ => ?_)
    refine (R_i2l zf172_29 rfl).trans ?_
    refine (R_iload_n zf172_30 rfl rfl).trans ?_
    refine (R_i2l zf172_31 rfl).trans ?_
    refine (R_lsub zf172_32 rfl).trans ?_
    refine (R_mabsL zf172_33 zo_172 zsl_5_48 zml_5_48 zna_5_48 (Nat.le_of_ble_eq_true rfl) rfl).trans ?_
    refine (R_lcmp zf172_36 rfl).trans ?_
    refine (R_if_ge (t := 42) zf172_37 rfl rfl).trans ?_
    refine ite_congr rfl (fun c6_ => ?_) (fun c6_ => ?_)
    · refine (R_iinc (ls' := [.inr (.inr (.inl 2)), .inl x0, .inl x1, .inl (wI (x2 + 1))]) zf172_42 rfl rfl rfl).trans ?_
      refine (R_goto (t := 4) zf172_45 rfl).trans ?_
      rfl
    · refine (R_iload_n zf172_40 rfl rfl).trans ?_
      refine (R_istore_n (ls' := [.inr (.inr (.inl 2)), .inl x0, .inl x2, .inl x2]) zf172_41 (Nat.le_of_ble_eq_true rfl) rfl rfl).trans ?_
      refine (R_iinc (ls' := [.inr (.inr (.inl 2)), .inl x0, .inl x2, .inl (wI (x2 + 1))]) zf172_42 rfl rfl rfl).trans ?_
      refine (R_goto (t := 4) zf172_45 rfl).trans ?_
      rfl
-- CannonPost$League.highestFort()I at 4
theorem q171_4 (d : Nat) (x0 : Int) (x1 : Int) (h : MH) : Run (d + 1) 171 4 [.inr (.inr (.inl 2)), .inl x0, .inl x1] [] h = (if (h 2 3) ≤ x1 then some (some (.inl x0), h) else (cI (Run d 64 0 [.inr (.inr (.inl 2)), .inl x1] [] h) fun a3_ h2_ => (cI (Run d 64 0 [.inr (.inr (.inl 2)), .inl x0] [] h2_) fun a5_ h4_ => (if a3_ ≤ a5_ then Run (d + 1) 171 4 [.inr (.inr (.inl 2)), .inl x0, .inl (wI (x1 + 1))] [] h4_ else Run (d + 1) 171 4 [.inr (.inr (.inl 2)), .inl x1, .inl (wI (x1 + 1))] [] h4_)))) := by
  refine (R_iload_n zf171_4 rfl rfl).trans ?_
  refine (R_aload_n zf171_5 rfl zlt_2 rfl).trans ?_
  refine (R_getI zf171_6 zo_171 zfl_5_27 zk1_2 zft_5_3 rfl).trans ?_
  refine (R_icmp_ge (t := 33) zf171_9 rfl rfl).trans ?_
  refine ite_congr rfl (fun c1_ => ?_) (fun c1_ => ?_)
  · refine (R_iload_n zf171_33 rfl rfl).trans ?_
    exact R_ireturn_i zf171_34 zr_171
  · refine (R_aload_n zf171_12 rfl zlt_2 rfl).trans ?_
    refine (R_iload_n zf171_13 rfl rfl).trans ?_
    refine (R_vcallI zf171_14 zo_171 zvl_5_45 (by rw [zr_64]; rfl) zl_64 (Nat.le_of_ble_eq_true rfl) rfl rfl (Nat.le_of_ble_eq_true rfl) (Nat.le_of_ble_eq_true rfl) (es := [.inr (.inr (.inl 2)), .inl x1]) rfl rfl zk1_2 zo_64).trans ?_
    refine congrArg (cI _) (funext fun a3_ => funext fun h2_ => ?_)
    refine (R_aload_n zf171_17 rfl zlt_2 rfl).trans ?_
    refine (R_iload_n zf171_18 rfl rfl).trans ?_
    refine (R_vcallI zf171_19 zo_171 zvl_5_45 (by rw [zr_64]; rfl) zl_64 (Nat.le_of_ble_eq_true rfl) rfl rfl (Nat.le_of_ble_eq_true rfl) (Nat.le_of_ble_eq_true rfl) (es := [.inr (.inr (.inl 2)), .inl x0]) rfl rfl zk1_2 zo_64).trans ?_
    refine congrArg (cI _) (funext fun a5_ => funext fun h4_ => ?_)
    refine (R_icmp_le (t := 27) zf171_22 rfl rfl).trans ?_
    refine ite_congr rfl (fun c6_ => ?_) (fun c6_ => ?_)
    · refine (R_iinc (ls' := [.inr (.inr (.inl 2)), .inl x0, .inl (wI (x1 + 1))]) zf171_27 rfl rfl rfl).trans ?_
      refine (R_goto (t := 4) zf171_30 rfl).trans ?_
      rfl
    · refine (R_iload_n zf171_25 rfl rfl).trans ?_
      refine (R_istore_n (ls' := [.inr (.inr (.inl 2)), .inl x1, .inl x1]) zf171_26 (Nat.le_of_ble_eq_true rfl) rfl rfl).trans ?_
      refine (R_iinc (ls' := [.inr (.inr (.inl 2)), .inl x1, .inl (wI (x1 + 1))]) zf171_27 rfl rfl rfl).trans ?_
      refine (R_goto (t := 4) zf171_30 rfl).trans ?_
      rfl
-- CannonPostModel.bytesIn(I)I at 5
theorem q179_5 (d : Nat) (x0 : Int) (x1 : Int) (x2 : Int) (h : MH) : Run d 179 5 [.inl x0, .inl x1, .inl x2] [] h = (if x2 < 0 then some (some (.inl x1), h) else (if (iAnd (iShr x0 x2) 255) = 0 then Run d 179 5 [.inl x0, .inl (wI (x1 + 0)), .inl (wI (x2 + (-8)))] [] h else Run d 179 5 [.inl x0, .inl (wI (x1 + 1)), .inl (wI (x2 + (-8)))] [] h)) := by
  refine (R_iload_n zf179_5 rfl rfl).trans ?_
  refine (R_if_lt (t := 33) zf179_6 rfl rfl).trans ?_
  refine ite_congr rfl (fun c1_ => ?_) (fun c1_ => ?_)
  · refine (R_iload_n zf179_33 rfl rfl).trans ?_
    exact R_ireturn_i zf179_34 zr_179
  · refine (R_iload_n zf179_9 rfl rfl).trans ?_
    refine (R_iload_n zf179_10 rfl rfl).trans ?_
    refine (R_iload_n zf179_11 rfl rfl).trans ?_
    refine (R_ishr zf179_12 rfl).trans ?_
    refine (R_sipush zf179_13 zs_255 rfl).trans ?_
    refine (R_iand zf179_16 rfl).trans ?_
    refine (R_if_eq (t := 24) zf179_17 rfl rfl).trans ?_
    refine ite_congr rfl (fun c2_ => ?_) (fun c2_ => ?_)
    · refine (R_iconst zf179_24 zw_0 rfl).trans ?_
      refine (R_iadd zf179_25 rfl).trans ?_
      refine (R_istore_n (ls' := [.inl x0, .inl (wI (x1 + 0)), .inl x2]) zf179_26 (Nat.le_of_ble_eq_true rfl) rfl rfl).trans ?_
      refine (R_iinc (ls' := [.inl x0, .inl (wI (x1 + 0)), .inl (wI (x2 + (-8)))]) zf179_27 rfl rfl rfl).trans ?_
      refine (R_goto (t := 5) zf179_30 rfl).trans ?_
      rfl
    · refine (R_iconst zf179_20 zw_1 rfl).trans ?_
      refine (R_goto (t := 25) zf179_21 rfl).trans ?_
      refine (R_iadd zf179_25 rfl).trans ?_
      refine (R_istore_n (ls' := [.inl x0, .inl (wI (x1 + 1)), .inl x2]) zf179_26 (Nat.le_of_ble_eq_true rfl) rfl rfl).trans ?_
      refine (R_iinc (ls' := [.inl x0, .inl (wI (x1 + 1)), .inl (wI (x2 + (-8)))]) zf179_27 rfl rfl rfl).trans ?_
      refine (R_goto (t := 5) zf179_30 rfl).trans ?_
      rfl
-- CannonPostModel.put(I)V at 3
theorem q180_3 (d : Nat) (x0 : Int) (x1 : Int) (h : MH) : Run d 180 3 [.inr (.inr (.inl 97)), .inl x0, .inl x1] [] h = (if x1 < 0 then some (none, h) else (if ¬ (iAnd (iShr x0 x1) 255) = 0 then (if 0 ≤ (h 97 6) ∧ (h 97 6) < 240 then Run d 180 3 [.inr (.inr (.inl 97)), .inl x0, .inl (wI (x1 + (-8)))] [] (up (up h 98 (h 97 6).toNat (toB (toB (iShr x0 x1)))) 97 6 (wI (((up h 98 (h 97 6).toNat (toB (toB (iShr x0 x1)))) 97 6) + 1))) else none) else Run d 180 3 [.inr (.inr (.inl 97)), .inl x0, .inl (wI (x1 + (-8)))] [] h)) := by
  refine (R_iload_n zf180_3 rfl rfl).trans ?_
  refine (R_if_lt (t := 49) zf180_4 rfl rfl).trans ?_
  refine ite_congr rfl (fun c1_ => ?_) (fun c1_ => ?_)
  · exact R_return zf180_49 zr_180
  · refine (R_iload_n zf180_7 rfl rfl).trans ?_
    refine (R_iload_n zf180_8 rfl rfl).trans ?_
    refine (R_ishr zf180_9 rfl).trans ?_
    refine (R_sipush zf180_10 zs_255 rfl).trans ?_
    refine (R_iand zf180_13 rfl).trans ?_
    refine (R_if_ne (t := 20) zf180_14 rfl rfl).trans ?_
    refine ite_congr rfl (fun c2_ => ?_) (fun c2_ => ?_)
    · refine (R_aload_n zf180_20 rfl zlt_97 rfl).trans ?_
      refine (R_getR zf180_21 zo_180 zfl_12_9 zk1_97 zft_12_1 zmr_97_1 rfl).trans ?_
      refine (R_aload_n zf180_24 rfl zlt_97 rfl).trans ?_
      refine (R_getI zf180_25 zo_180 zfl_12_109 zk1_97 zft_12_6 rfl).trans ?_
      refine (R_iload_n zf180_28 rfl rfl).trans ?_
      refine (R_iload_n zf180_29 rfl rfl).trans ?_
      refine (R_ishr zf180_30 rfl).trans ?_
      refine (R_i2b zf180_31 rfl).trans ?_
      refine (R_bast zf180_32 zk_98 rfl).trans ?_
      refine ite_congr rfl (fun c3_ => ?_) (fun _ => rfl)
      refine (R_aload_n zf180_33 rfl zlt_97 rfl).trans ?_
      refine (R_dup zf180_34 rfl rfl).trans ?_
      refine (R_getI zf180_35 zo_180 zfl_12_109 zk1_97 zft_12_6 rfl).trans ?_
      refine (R_iconst zf180_38 zw_1 rfl).trans ?_
      refine (R_iadd zf180_39 rfl).trans ?_
      refine (R_putI zf180_40 zo_180 zfl_12_109 zk1_97 zft_12_6 rfl).trans ?_
      refine (R_iinc (ls' := [.inr (.inr (.inl 97)), .inl x0, .inl (wI (x1 + (-8)))]) zf180_43 rfl rfl rfl).trans ?_
      refine (R_goto (t := 3) zf180_46 rfl).trans ?_
      rfl
    · refine (R_goto (t := 43) zf180_17 rfl).trans ?_
      refine (R_iinc (ls' := [.inr (.inr (.inl 97)), .inl x0, .inl (wI (x1 + (-8)))]) zf180_43 rfl rfl rfl).trans ?_
      refine (R_goto (t := 3) zf180_46 rfl).trans ?_
      rfl
-- CannonPostModel.readPlan()V at 0
theorem q213_0 (d : Nat) (h : MH) : Run (d + 1) 213 0 [.inr (.inr (.inl 97)), vU, vU] [] h = (cV (Run d 185 0 [.inr (.inr (.inl 97)), .inr (.inr (.inl 98)), .inl 0, .inl (h 97 6)] [] h) fun h1_ => Run (d + 1) 213 17 [.inr (.inr (.inl 97)), .inl 0, .inl 1] [] h1_) := by
  refine (R_aload_n zf213_0 rfl zlt_97 rfl).trans ?_
  refine (R_aload_n zf213_1 rfl zlt_97 rfl).trans ?_
  refine (R_getR zf213_2 zo_213 zfl_12_9 zk1_97 zft_12_1 zmr_97_1 rfl).trans ?_
  refine (R_iconst zf213_5 zw_0 rfl).trans ?_
  refine (R_aload_n zf213_6 rfl zlt_97 rfl).trans ?_
  refine (R_getI zf213_7 zo_213 zfl_12_109 zk1_97 zft_12_6 rfl).trans ?_
  refine (R_vcallV zf213_10 zo_213 zvl_12_207 zr_185 zl_185 (Nat.le_of_ble_eq_true rfl) rfl rfl (Nat.le_of_ble_eq_true rfl) (Nat.le_of_ble_eq_true rfl) (es := [.inr (.inr (.inl 97)), .inr (.inr (.inl 98)), .inl 0, .inl (h 97 6)]) rfl rfl zk1_97 zo_185).trans ?_
  refine congrArg (cV _) (funext fun h1_ => ?_)
  refine (R_iconst zf213_13 zw_0 rfl).trans ?_
  refine (R_istore_n (ls' := [.inr (.inr (.inl 97)), .inl 0, vU]) zf213_14 (Nat.le_of_ble_eq_true rfl) rfl rfl).trans ?_
  refine (R_iconst zf213_15 zw_1 rfl).trans ?_
  refine (R_istore_n (ls' := [.inr (.inr (.inl 97)), .inl 0, .inl 1]) zf213_16 (Nat.le_of_ble_eq_true rfl) rfl rfl).trans ?_
  rfl
-- CannonPostModel.goThrough([BII)V at 0
theorem q199_0 (d : Nat) (x0 : Int) (x1 : Int) (h : MH) : Run (d + 1) 199 0 [.inr (.inr (.inl 97)), .inr (.inr (.inl 98)), .inl x0, .inl x1] [] h = (cV (Run d 185 0 [.inr (.inr (.inl 97)), .inr (.inr (.inl 98)), .inl x0, .inl x1] [] h) fun h1_ => (cV (Run d 200 0 [.inr (.inr (.inl 97)), vU, vU, vU, vU] [] (up (up (up (up h1_ 97 13 121) 97 12 0) 97 17 0) 97 14 0)) fun h2_ => Run (d + 1) 199 32 [.inr (.inr (.inl 97)), .inr (.inr (.inl 98)), .inl x0, .inl x1] [] h2_)) := by
  refine (R_aload_n zf199_0 rfl zlt_97 rfl).trans ?_
  refine (R_aload_n zf199_1 rfl zlt_98 rfl).trans ?_
  refine (R_iload_n zf199_2 rfl rfl).trans ?_
  refine (R_iload_n zf199_3 rfl rfl).trans ?_
  refine (R_vcallV zf199_4 zo_199 zvl_12_207 zr_185 zl_185 (Nat.le_of_ble_eq_true rfl) rfl rfl (Nat.le_of_ble_eq_true rfl) (Nat.le_of_ble_eq_true rfl) (es := [.inr (.inr (.inl 97)), .inr (.inr (.inl 98)), .inl x0, .inl x1]) rfl rfl zk1_97 zo_185).trans ?_
  refine congrArg (cV _) (funext fun h1_ => ?_)
  refine (R_aload_n zf199_7 rfl zlt_97 rfl).trans ?_
  refine (R_bipush zf199_8 zb_121 rfl).trans ?_
  refine (R_putI zf199_10 zo_199 zfl_12_201 zk1_97 zft_12_13 rfl).trans ?_
  refine (R_aload_n zf199_13 rfl zlt_97 rfl).trans ?_
  refine (R_iconst zf199_14 zw_0 rfl).trans ?_
  refine (R_putI zf199_15 zo_199 zfl_12_131 zk1_97 zft_12_12 rfl).trans ?_
  refine (R_aload_n zf199_18 rfl zlt_97 rfl).trans ?_
  refine (R_iconst zf199_19 zw_0 rfl).trans ?_
  refine (R_putZ zf199_20 zo_199 zfl_12_197 zk1_97 zft_12_17 rfl rfl).trans ?_
  refine (R_aload_n zf199_23 rfl zlt_97 rfl).trans ?_
  refine (R_iconst zf199_24 zw_0 rfl).trans ?_
  refine (R_putI zf199_25 zo_199 zfl_12_204 zk1_97 zft_12_14 rfl).trans ?_
  refine (R_aload_n zf199_28 rfl zlt_97 rfl).trans ?_
  refine (R_vcallV zf199_29 zo_199 zvl_12_211 zr_200 zl_200 (Nat.le_of_ble_eq_true rfl) rfl rfl (Nat.le_of_ble_eq_true rfl) (Nat.le_of_ble_eq_true rfl) (es := [.inr (.inr (.inl 97)), vU, vU, vU, vU]) rfl rfl zk1_97 zo_200).trans ?_
  refine congrArg (cV _) (funext fun h2_ => ?_)
  rfl
-- CannonPostModel.starts([BII)V at 0
theorem q185_0 (d : Nat) (x0 : Int) (x1 : Int) (h : MH) : Run d 185 0 [.inr (.inr (.inl 97)), .inr (.inr (.inl 98)), .inl x0, .inl x1] [] h = some (none, (up (up (up (up (up h 97 5 98) 97 8 x0) 97 9 x1) 97 10 0) 97 11 (-1))) := by
  refine (R_aload_n zf185_0 rfl zlt_97 rfl).trans ?_
  refine (R_aload_n zf185_1 rfl zlt_98 rfl).trans ?_
  refine (R_putR zf185_2 zo_185 zfl_12_23 zk1_97 zft_12_5 zk1_98 rfl).trans ?_
  refine (R_aload_n zf185_5 rfl zlt_97 rfl).trans ?_
  refine (R_iload_n zf185_6 rfl rfl).trans ?_
  refine (R_putI zf185_7 zo_185 zfl_12_125 zk1_97 zft_12_8 rfl).trans ?_
  refine (R_aload_n zf185_10 rfl zlt_97 rfl).trans ?_
  refine (R_iload_n zf185_11 rfl rfl).trans ?_
  refine (R_putI zf185_12 zo_185 zfl_12_122 zk1_97 zft_12_9 rfl).trans ?_
  refine (R_aload_n zf185_15 rfl zlt_97 rfl).trans ?_
  refine (R_iconst zf185_16 zw_0 rfl).trans ?_
  refine (R_putI zf185_17 zo_185 zfl_12_119 zk1_97 zft_12_10 rfl).trans ?_
  refine (R_aload_n zf185_20 rfl zlt_97 rfl).trans ?_
  refine (R_iconst zf185_21 zw_m1 rfl).trans ?_
  refine (R_putI zf185_22 zo_185 zfl_12_128 zk1_97 zft_12_11 rfl).trans ?_
  exact R_return zf185_25 zr_185
-- CannonPostModel.readLeague()V at 30
theorem q184_30 (d : Nat) (x0 : Int) (h : MH) : Run (d + 1) 184 30 [.inr (.inr (.inl 97)), .inl x0] [] h = (if 4 ≤ x0 then Run (d + 1) 184 55 [.inr (.inr (.inl 97)), .inl 1] [] h else (cI (Run d 186 0 [.inl 115, .inl x0] [] h) fun a3_ h2_ => (if 0 ≤ x0 ∧ x0 < 4 then Run (d + 1) 184 30 [.inr (.inr (.inl 97)), .inl (wI (x0 + 1))] [] (up h2_ 103 x0.toNat a3_) else none))) := by
  refine (R_iload_n zf184_30 rfl rfl).trans ?_
  refine (R_iconst zf184_31 zw_4 rfl).trans ?_
  refine (R_icmp_ge (t := 53) zf184_32 rfl rfl).trans ?_
  refine ite_congr rfl (fun c1_ => ?_) (fun c1_ => ?_)
  · refine (R_iconst zf184_53 zw_1 rfl).trans ?_
    refine (R_istore_n (ls' := [.inr (.inr (.inl 97)), .inl 1]) zf184_54 (Nat.le_of_ble_eq_true rfl) rfl rfl).trans ?_
    rfl
  · refine (R_aload_n zf184_35 rfl zlt_97 rfl).trans ?_
    refine (R_getR zf184_36 zo_184 zfl_12_40 zk1_97 zft_12_19 zmr_97_19 rfl).trans ?_
    refine (R_iload_n zf184_39 rfl rfl).trans ?_
    refine (R_bipush zf184_40 zb_115 rfl).trans ?_
    refine (R_iload_n zf184_42 rfl rfl).trans ?_
    refine (R_callI zf184_43 zo_184 zsl_12_221 (by rw [zr_186]; rfl) zl_186 (Nat.le_of_ble_eq_true rfl) rfl rfl (Nat.le_of_ble_eq_true rfl) (Nat.le_of_ble_eq_true rfl) (es := [.inl 115, .inl x0]) rfl rfl).trans ?_
    refine congrArg (cI _) (funext fun a3_ => funext fun h2_ => ?_)
    refine (R_iast zf184_46 zk_103 rfl).trans ?_
    refine ite_congr rfl (fun c4_ => ?_) (fun _ => rfl)
    refine (R_iinc (ls' := [.inr (.inr (.inl 97)), .inl (wI (x0 + 1))]) zf184_47 rfl rfl rfl).trans ?_
    refine (R_goto (t := 30) zf184_50 rfl).trans ?_
    rfl
-- CannonPostModel.text(I)I at 223
theorem q216_223 (d : Nat) (z0 : MV) (hz0 : cat z0 = 1) (z1 : MV) (hz1 : cat z1 = 1) (x2 : Int) (h : MH) : Run (d + 1) 216 223 [.inr (.inr (.inl 97)), z0, z1, .inl x2] [] h = (if 4 ≤ x2 then Run (d + 1) 216 248 [.inr (.inr (.inl 97)), z0, z1, .inl 0] [] h else (if 0 ≤ x2 ∧ x2 < 4 then (if 0 ≤ x2 ∧ x2 < 4 then Run (d + 1) 216 223 [.inr (.inr (.inl 97)), z0, z1, .inl (wI (x2 + 1))] [] (up h 102 x2.toNat (h 103 x2.toNat)) else none) else none)) := by
  refine (R_iload_n zf216_223 rfl rfl).trans ?_
  refine (R_iconst zf216_224 zw_4 rfl).trans ?_
  refine (R_icmp_ge (t := 246) zf216_225 rfl rfl).trans ?_
  refine ite_congr rfl (fun c1_ => ?_) (fun c1_ => ?_)
  · refine (R_iconst zf216_246 zw_0 rfl).trans ?_
    refine (R_istore_n (ls' := [.inr (.inr (.inl 97)), z0, z1, .inl 0]) zf216_247 (Nat.le_of_ble_eq_true rfl) (st1_z rfl hz1 rfl) rfl).trans ?_
    rfl
  · refine (R_aload_n zf216_228 rfl zlt_97 rfl).trans ?_
    refine (R_getR zf216_229 zo_216 zfl_12_37 zk1_97 zft_12_18 zmr_97_18 rfl).trans ?_
    refine (R_iload_n zf216_232 rfl rfl).trans ?_
    refine (R_aload_n zf216_233 rfl zlt_97 rfl).trans ?_
    refine (R_getR zf216_234 zo_216 zfl_12_40 zk1_97 zft_12_19 zmr_97_19 rfl).trans ?_
    refine (R_iload_n zf216_237 rfl rfl).trans ?_
    refine (R_iald zf216_238 zk_103 rfl).trans ?_
    refine ite_congr rfl (fun c2_ => ?_) (fun _ => rfl)
    refine (R_iast zf216_239 zk_102 rfl).trans ?_
    refine ite_congr rfl (fun c3_ => ?_) (fun _ => rfl)
    refine (R_iinc (ls' := [.inr (.inr (.inl 97)), z0, z1, .inl (wI (x2 + 1))]) zf216_240 rfl (st1_z rfl hz1 rfl) rfl).trans ?_
    refine (R_goto (t := 223) zf216_243 rfl).trans ?_
    rfl
-- CannonPostModel.text(I)I at 137
theorem q216_137 (d : Nat) (z0 : MV) (hz0 : cat z0 = 1) (z1 : MV) (hz1 : cat z1 = 1) (x2 : Int) (h : MH) : Run (d + 1) 216 137 [.inr (.inr (.inl 97)), z0, z1, .inl x2] [] h = (if 64 ≤ x2 then (if 0 ≤ (h 97 30) ∧ (h 97 30) < 5 then some (some (.inl (wI (((up (up h 109 (h 97 30).toNat (h 109 4)) 97 30 (wI (((up h 109 (h 97 30).toNat (h 109 4)) 97 30) + 1))) 97 30) - 1))), (up (up h 109 (h 97 30).toNat (h 109 4)) 97 30 (wI (((up h 109 (h 97 30).toNat (h 109 4)) 97 30) + 1)))) else none) else (if 0 ≤ (wI (256 + x2)) ∧ (wI (256 + x2)) < 320 then (if 0 ≤ (wI ((wI (64 * (h 97 30))) + x2)) ∧ (wI ((wI (64 * (h 97 30))) + x2)) < 320 then Run (d + 1) 216 137 [.inr (.inr (.inl 97)), z0, z1, .inl (wI (x2 + 1))] [] (up h 108 (wI ((wI (64 * (h 97 30))) + x2)).toNat (h 108 (wI (256 + x2)).toNat)) else none) else none)) := by
  refine (R_iload_n zf216_137 rfl rfl).trans ?_
  refine (R_bipush zf216_138 zb_64 rfl).trans ?_
  refine (R_icmp_ge (t := 173) zf216_140 rfl rfl).trans ?_
  refine ite_congr rfl (fun c1_ => ?_) (fun c1_ => ?_)
  · refine (R_aload_n zf216_173 rfl zlt_97 rfl).trans ?_
    refine (R_getR zf216_174 zo_216 zfl_12_58 zk1_97 zft_12_25 zmr_97_25 rfl).trans ?_
    refine (R_aload_n zf216_177 rfl zlt_97 rfl).trans ?_
    refine (R_getI zf216_178 zo_216 zfl_12_289 zk1_97 zft_12_30 rfl).trans ?_
    refine (R_aload_n zf216_181 rfl zlt_97 rfl).trans ?_
    refine (R_getR zf216_182 zo_216 zfl_12_58 zk1_97 zft_12_25 zmr_97_25 rfl).trans ?_
    refine (R_iconst zf216_185 zw_4 rfl).trans ?_
    refine (R_ialdc zf216_186 zk_109 (by decide) rfl rfl).trans ?_
    refine (R_iast zf216_187 zk_109 rfl).trans ?_
    refine ite_congr rfl (fun c2_ => ?_) (fun _ => rfl)
    refine (R_aload_n zf216_188 rfl zlt_97 rfl).trans ?_
    refine (R_dup zf216_189 rfl rfl).trans ?_
    refine (R_getI zf216_190 zo_216 zfl_12_289 zk1_97 zft_12_30 rfl).trans ?_
    refine (R_iconst zf216_193 zw_1 rfl).trans ?_
    refine (R_iadd zf216_194 rfl).trans ?_
    refine (R_putI zf216_195 zo_216 zfl_12_289 zk1_97 zft_12_30 rfl).trans ?_
    refine (R_aload_n zf216_198 rfl zlt_97 rfl).trans ?_
    refine (R_getI zf216_199 zo_216 zfl_12_289 zk1_97 zft_12_30 rfl).trans ?_
    refine (R_iconst zf216_202 zw_1 rfl).trans ?_
    refine (R_isub zf216_203 rfl).trans ?_
    exact R_ireturn_i zf216_204 zr_216
  · refine (R_aload_n zf216_143 rfl zlt_97 rfl).trans ?_
    refine (R_getR zf216_144 zo_216 zfl_12_55 zk1_97 zft_12_24 zmr_97_24 rfl).trans ?_
    refine (R_bipush zf216_147 zb_64 rfl).trans ?_
    refine (R_aload_n zf216_149 rfl zlt_97 rfl).trans ?_
    refine (R_getI zf216_150 zo_216 zfl_12_289 zk1_97 zft_12_30 rfl).trans ?_
    refine (R_imul zf216_153 rfl).trans ?_
    refine (R_iload_n zf216_154 rfl rfl).trans ?_
    refine (R_iadd zf216_155 rfl).trans ?_
    refine (R_aload_n zf216_156 rfl zlt_97 rfl).trans ?_
    refine (R_getR zf216_157 zo_216 zfl_12_55 zk1_97 zft_12_24 zmr_97_24 rfl).trans ?_
    refine (R_sipush zf216_160 zs_256 rfl).trans ?_
    refine (R_iload_n zf216_163 rfl rfl).trans ?_
    refine (R_iadd zf216_164 rfl).trans ?_
    refine (R_iald zf216_165 zk_108 rfl).trans ?_
    refine ite_congr rfl (fun c3_ => ?_) (fun _ => rfl)
    refine (R_iast zf216_166 zk_108 rfl).trans ?_
    refine ite_congr rfl (fun c4_ => ?_) (fun _ => rfl)
    refine (R_iinc (ls' := [.inr (.inr (.inl 97)), z0, z1, .inl (wI (x2 + 1))]) zf216_167 rfl (st1_z rfl hz1 rfl) rfl).trans ?_
    refine (R_goto (t := 137) zf216_170 rfl).trans ?_
    rfl
-- CannonPostModel.text(I)I at 71
theorem q216_71 (d : Nat) (z0 : MV) (hz0 : cat z0 = 1) (x1 : Int) (x2 : Int) (h : MH) : Run (d + 1) 216 71 [.inr (.inr (.inl 97)), z0, .inl x1, .inl x2] [] h = (if x1 ≤ x2 then (if 0 ≤ (h 97 7) ∧ (h 97 7) < 4 then some (some (.inl (wI (((up (up h 100 (h 97 7).toNat x1) 97 7 (wI (((up h 100 (h 97 7).toNat x1) 97 7) + 1))) 97 7) - 1))), (up (up h 100 (h 97 7).toNat x1) 97 7 (wI (((up h 100 (h 97 7).toNat x1) 97 7) + 1)))) else none) else (if 0 ≤ x2 ∧ x2 < 240 then (if 0 ≤ (wI ((wI (240 * (h 97 7))) + x2)) ∧ (wI ((wI (240 * (h 97 7))) + x2)) < 960 then Run (d + 1) 216 71 [.inr (.inr (.inl 97)), z0, .inl x1, .inl (wI (x2 + 1))] [] (up h 99 (wI ((wI (240 * (h 97 7))) + x2)).toNat (toB (h 98 x2.toNat))) else none) else none)) := by
  refine (R_iload_n zf216_71 rfl rfl).trans ?_
  refine (R_iload_n zf216_72 rfl rfl).trans ?_
  refine (R_icmp_ge (t := 103) zf216_73 rfl rfl).trans ?_
  refine ite_congr rfl (fun c1_ => ?_) (fun c1_ => ?_)
  · refine (R_aload_n zf216_103 rfl zlt_97 rfl).trans ?_
    refine (R_getR zf216_104 zo_216 zfl_12_16 zk1_97 zft_12_3 zmr_97_3 rfl).trans ?_
    refine (R_aload_n zf216_107 rfl zlt_97 rfl).trans ?_
    refine (R_getI zf216_108 zo_216 zfl_12_286 zk1_97 zft_12_7 rfl).trans ?_
    refine (R_iload_n zf216_111 rfl rfl).trans ?_
    refine (R_iast zf216_112 zk_100 rfl).trans ?_
    refine ite_congr rfl (fun c2_ => ?_) (fun _ => rfl)
    refine (R_aload_n zf216_113 rfl zlt_97 rfl).trans ?_
    refine (R_dup zf216_114 rfl rfl).trans ?_
    refine (R_getI zf216_115 zo_216 zfl_12_286 zk1_97 zft_12_7 rfl).trans ?_
    refine (R_iconst zf216_118 zw_1 rfl).trans ?_
    refine (R_iadd zf216_119 rfl).trans ?_
    refine (R_putI zf216_120 zo_216 zfl_12_286 zk1_97 zft_12_7 rfl).trans ?_
    refine (R_aload_n zf216_123 rfl zlt_97 rfl).trans ?_
    refine (R_getI zf216_124 zo_216 zfl_12_286 zk1_97 zft_12_7 rfl).trans ?_
    refine (R_iconst zf216_127 zw_1 rfl).trans ?_
    refine (R_isub zf216_128 rfl).trans ?_
    exact R_ireturn_i zf216_129 zr_216
  · refine (R_aload_n zf216_76 rfl zlt_97 rfl).trans ?_
    refine (R_getR zf216_77 zo_216 zfl_12_13 zk1_97 zft_12_2 zmr_97_2 rfl).trans ?_
    refine (R_sipush zf216_80 zs_240 rfl).trans ?_
    refine (R_aload_n zf216_83 rfl zlt_97 rfl).trans ?_
    refine (R_getI zf216_84 zo_216 zfl_12_286 zk1_97 zft_12_7 rfl).trans ?_
    refine (R_imul zf216_87 rfl).trans ?_
    refine (R_iload_n zf216_88 rfl rfl).trans ?_
    refine (R_iadd zf216_89 rfl).trans ?_
    refine (R_aload_n zf216_90 rfl zlt_97 rfl).trans ?_
    refine (R_getR zf216_91 zo_216 zfl_12_9 zk1_97 zft_12_1 zmr_97_1 rfl).trans ?_
    refine (R_iload_n zf216_94 rfl rfl).trans ?_
    refine (R_bald zf216_95 zk_98 rfl).trans ?_
    refine ite_congr rfl (fun c3_ => ?_) (fun _ => rfl)
    refine (R_bast zf216_96 zk_99 rfl).trans ?_
    refine ite_congr rfl (fun c4_ => ?_) (fun _ => rfl)
    refine (R_iinc (ls' := [.inr (.inr (.inl 97)), z0, .inl x1, .inl (wI (x2 + 1))]) zf216_97 rfl rfl rfl).trans ?_
    refine (R_goto (t := 71) zf216_100 rfl).trans ?_
    rfl
-- CannonPostModel.remember()V at 52
theorem q229_52 (d : Nat) (x0 : Int) (h : MH) : Run d 229 52 [.inr (.inr (.inl 97)), .inl x0] [] h = (if 277 ≤ x0 then some (none, (up h 97 37 (wI ((h 97 37) + 1)))) else (if 0 ≤ x0 ∧ x0 < 277 then (if 0 ≤ (wI ((wI (277 * (h 97 37))) + x0)) ∧ (wI ((wI (277 * (h 97 37))) + x0)) < 11080 then Run d 229 52 [.inr (.inr (.inl 97)), .inl (wI (x0 + 1))] [] (up h 112 (wI ((wI (277 * (h 97 37))) + x0)).toNat (h 110 x0.toNat)) else none) else none)) := by
  refine (R_iload_n zf229_52 rfl rfl).trans ?_
  refine (R_sipush zf229_53 zs_277 rfl).trans ?_
  refine (R_icmp_ge (t := 86) zf229_56 rfl rfl).trans ?_
  refine ite_congr rfl (fun c1_ => ?_) (fun c1_ => ?_)
  · refine (R_aload_n zf229_86 rfl zlt_97 rfl).trans ?_
    refine (R_dup zf229_87 rfl rfl).trans ?_
    refine (R_getI zf229_88 zo_229 zfl_12_309 zk1_97 zft_12_37 rfl).trans ?_
    refine (R_iconst zf229_91 zw_1 rfl).trans ?_
    refine (R_iadd zf229_92 rfl).trans ?_
    refine (R_putI zf229_93 zo_229 zfl_12_309 zk1_97 zft_12_37 rfl).trans ?_
    exact R_return zf229_96 zr_229
  · refine (R_aload_n zf229_59 rfl zlt_97 rfl).trans ?_
    refine (R_getR zf229_60 zo_229 zfl_12_71 zk1_97 zft_12_36 zmr_97_36 rfl).trans ?_
    refine (R_sipush zf229_63 zs_277 rfl).trans ?_
    refine (R_aload_n zf229_66 rfl zlt_97 rfl).trans ?_
    refine (R_getI zf229_67 zo_229 zfl_12_309 zk1_97 zft_12_37 rfl).trans ?_
    refine (R_imul zf229_70 rfl).trans ?_
    refine (R_iload_n zf229_71 rfl rfl).trans ?_
    refine (R_iadd zf229_72 rfl).trans ?_
    refine (R_aload_n zf229_73 rfl zlt_97 rfl).trans ?_
    refine (R_getR zf229_74 zo_229 zfl_12_61 zk1_97 zft_12_32 zmr_97_32 rfl).trans ?_
    refine (R_iload_n zf229_77 rfl rfl).trans ?_
    refine (R_iald zf229_78 zk_110 rfl).trans ?_
    refine ite_congr rfl (fun c2_ => ?_) (fun _ => rfl)
    refine (R_iast zf229_79 zk_112 rfl).trans ?_
    refine ite_congr rfl (fun c3_ => ?_) (fun _ => rfl)
    refine (R_iinc (ls' := [.inr (.inr (.inl 97)), .inl (wI (x0 + 1))]) zf229_80 rfl rfl rfl).trans ?_
    refine (R_goto (t := 52) zf229_83 rfl).trans ?_
    rfl
-- CannonPostModel.remember()V at 11
theorem q229_11 (d : Nat) (x0 : Int) (h : MH) : Run d 229 11 [.inr (.inr (.inl 97)), .inl x0] [] h = (if 10803 ≤ x0 then Run d 229 52 [.inr (.inr (.inl 97)), .inl 0] [] (up h 97 37 (wI ((h 97 37) - 1))) else (if 0 ≤ (wI (x0 + 277)) ∧ (wI (x0 + 277)) < 11080 then (if 0 ≤ x0 ∧ x0 < 11080 then Run d 229 11 [.inr (.inr (.inl 97)), .inl (wI (x0 + 1))] [] (up h 112 x0.toNat (h 112 (wI (x0 + 277)).toNat)) else none) else none)) := by
  refine (R_iload_n zf229_11 rfl rfl).trans ?_
  refine (R_sipush zf229_12 zs_10803 rfl).trans ?_
  refine (R_icmp_ge (t := 40) zf229_15 rfl rfl).trans ?_
  refine ite_congr rfl (fun c1_ => ?_) (fun c1_ => ?_)
  · refine (R_aload_n zf229_40 rfl zlt_97 rfl).trans ?_
    refine (R_dup zf229_41 rfl rfl).trans ?_
    refine (R_getI zf229_42 zo_229 zfl_12_309 zk1_97 zft_12_37 rfl).trans ?_
    refine (R_iconst zf229_45 zw_1 rfl).trans ?_
    refine (R_isub zf229_46 rfl).trans ?_
    refine (R_putI zf229_47 zo_229 zfl_12_309 zk1_97 zft_12_37 rfl).trans ?_
    refine (R_iconst zf229_50 zw_0 rfl).trans ?_
    refine (R_istore_n (ls' := [.inr (.inr (.inl 97)), .inl 0]) zf229_51 (Nat.le_of_ble_eq_true rfl) rfl rfl).trans ?_
    rfl
  · refine (R_aload_n zf229_18 rfl zlt_97 rfl).trans ?_
    refine (R_getR zf229_19 zo_229 zfl_12_71 zk1_97 zft_12_36 zmr_97_36 rfl).trans ?_
    refine (R_iload_n zf229_22 rfl rfl).trans ?_
    refine (R_aload_n zf229_23 rfl zlt_97 rfl).trans ?_
    refine (R_getR zf229_24 zo_229 zfl_12_71 zk1_97 zft_12_36 zmr_97_36 rfl).trans ?_
    refine (R_iload_n zf229_27 rfl rfl).trans ?_
    refine (R_sipush zf229_28 zs_277 rfl).trans ?_
    refine (R_iadd zf229_31 rfl).trans ?_
    refine (R_iald zf229_32 zk_112 rfl).trans ?_
    refine ite_congr rfl (fun c2_ => ?_) (fun _ => rfl)
    refine (R_iast zf229_33 zk_112 rfl).trans ?_
    refine ite_congr rfl (fun c3_ => ?_) (fun _ => rfl)
    refine (R_iinc (ls' := [.inr (.inr (.inl 97)), .inl (wI (x0 + 1))]) zf229_34 rfl rfl rfl).trans ?_
    refine (R_goto (t := 11) zf229_37 rfl).trans ?_
    rfl
-- CannonPostModel.shoots([IIIII)I at 96
theorem q230_96 (d : Nat) (x0 : Int) (x1 : Int) (z2 : MV) (hz2 : cat z2 = 1) (x3 : Int) (x4 : Int) (x5 : Int) (z6 : MV) (hz6 : cat z6 = 1) (h : MH) : Run (d + 1) 230 96 [.inr (.inr (.inl 97)), .inr (.inr (.inl 110)), .inl x0, .inl x1, z2, .inl x3, .inl x4, .inl x5, z6] [] h = (cI (Run d 217 0 [.inl x0] [] h) fun a2_ h1_ => (if 0 ≤ a2_ ∧ a2_ < 277 then (if 0 ≤ (wI (8 + x5)) ∧ (wI (8 + x5)) < 277 then (if 0 ≤ (wI (8 + x5)) ∧ (wI (8 + x5)) < 277 then (if ¬ ((up (up h1_ 110 a2_.toNat x5) 110 (wI (8 + x5)).toNat (iOr ((up h1_ 110 a2_.toNat x5) 110 (wI (8 + x5)).toNat) x3)) 110 36) = 60 then Run (d + 1) 230 166 [.inr (.inr (.inl 97)), .inr (.inr (.inl 110)), .inl x0, .inl x1, z2, .inl x3, .inl x4, .inl x5, z6] [] (up (up h1_ 110 a2_.toNat x5) 110 (wI (8 + x5)).toNat (iOr ((up h1_ 110 a2_.toNat x5) 110 (wI (8 + x5)).toNat) x3)) else Run (d + 1) 230 128 [.inr (.inr (.inl 97)), .inr (.inr (.inl 110)), .inl x0, .inl x1, z2, .inl x3, .inl x4, .inl x5, .inl 1] [] (up (up h1_ 110 a2_.toNat x5) 110 (wI (8 + x5)).toNat (iOr ((up h1_ 110 a2_.toNat x5) 110 (wI (8 + x5)).toNat) x3))) else none) else none) else none)) := by
  refine (R_aload_n zf230_96 rfl zlt_110 rfl).trans ?_
  refine (R_iload_n zf230_97 rfl rfl).trans ?_
  refine (R_callI zf230_98 zo_230 zsl_12_300 (by rw [zr_217]; rfl) zl_217 (Nat.le_of_ble_eq_true rfl) rfl rfl (Nat.le_of_ble_eq_true rfl) (Nat.le_of_ble_eq_true rfl) (es := [.inl x0]) rfl rfl).trans ?_
  refine congrArg (cI _) (funext fun a2_ => funext fun h1_ => ?_)
  refine (R_iload zf230_101 rfl rfl).trans ?_
  refine (R_iast zf230_103 zk_110 rfl).trans ?_
  refine ite_congr rfl (fun c3_ => ?_) (fun _ => rfl)
  refine (R_aload_n zf230_104 rfl zlt_110 rfl).trans ?_
  refine (R_bipush zf230_105 zb_8 rfl).trans ?_
  refine (R_iload zf230_107 rfl rfl).trans ?_
  refine (R_iadd zf230_109 rfl).trans ?_
  refine (R_dup2 zf230_110 rfl rfl rfl).trans ?_
  refine (R_iald zf230_111 zk_110 rfl).trans ?_
  refine ite_congr rfl (fun c4_ => ?_) (fun _ => rfl)
  refine (R_iload zf230_112 rfl rfl).trans ?_
  refine (R_ior zf230_114 rfl).trans ?_
  refine (R_iast zf230_115 zk_110 rfl).trans ?_
  refine ite_congr rfl (fun c5_ => ?_) (fun _ => rfl)
  refine (R_aload_n zf230_116 rfl zlt_110 rfl).trans ?_
  refine (R_bipush zf230_117 zb_36 rfl).trans ?_
  refine (R_ialdc zf230_119 zk_110 (by decide) rfl rfl).trans ?_
  refine (R_bipush zf230_120 zb_60 rfl).trans ?_
  refine (R_icmp_ne (t := 166) zf230_122 rfl rfl).trans ?_
  refine ite_congr rfl (fun c6_ => ?_) (fun c6_ => ?_)
  · rfl
  · refine (R_iconst zf230_125 zw_1 rfl).trans ?_
    refine (R_istore (ls' := [.inr (.inr (.inl 97)), .inr (.inr (.inl 110)), .inl x0, .inl x1, z2, .inl x3, .inl x4, .inl x5, .inl 1]) zf230_126 (Nat.le_of_ble_eq_true rfl) rfl rfl).trans ?_
    rfl
-- CannonPostModel.shoots([IIIII)I at 166
theorem q230_166 (d : Nat) (x0 : Int) (x1 : Int) (z2 : MV) (hz2 : cat z2 = 1) (z3 : MV) (hz3 : cat z3 = 1) (x4 : Int) (x5 : Int) (z6 : MV) (hz6 : cat z6 = 1) (h : MH) : Run (d + 1) 230 166 [.inr (.inr (.inl 97)), .inr (.inr (.inl 110)), .inl x0, .inl x1, z2, z3, .inl x4, .inl x5, z6] [] h = (if 0 ≤ (wI (37 + (wI (4 * (h 110 36))))) ∧ (wI (37 + (wI (4 * (h 110 36))))) < 277 then (if 0 ≤ (wI ((wI (37 + (wI (4 * (h 110 36))))) + 1)) ∧ (wI ((wI (37 + (wI (4 * (h 110 36))))) + 1)) < 277 then (if 0 ≤ (wI ((wI (37 + (wI (4 * (h 110 36))))) + 2)) ∧ (wI ((wI (37 + (wI (4 * (h 110 36))))) + 2)) < 277 then (if 0 ≤ (wI ((wI (37 + (wI (4 * (h 110 36))))) + 3)) ∧ (wI ((wI (37 + (wI (4 * (h 110 36))))) + 3)) < 277 then some (some (.inl x5), (up (up (up (up (up h 110 (wI (37 + (wI (4 * (h 110 36))))).toNat x0) 110 (wI ((wI (37 + (wI (4 * (h 110 36))))) + 1)).toNat x4) 110 (wI ((wI (37 + (wI (4 * (h 110 36))))) + 2)).toNat x5) 110 (wI ((wI (37 + (wI (4 * (h 110 36))))) + 3)).toNat x1) 110 36 (wI (((up (up (up (up h 110 (wI (37 + (wI (4 * (h 110 36))))).toNat x0) 110 (wI ((wI (37 + (wI (4 * (h 110 36))))) + 1)).toNat x4) 110 (wI ((wI (37 + (wI (4 * (h 110 36))))) + 2)).toNat x5) 110 (wI ((wI (37 + (wI (4 * (h 110 36))))) + 3)).toNat x1) 110 36) + 1)))) else none) else none) else none) else none) := by
  refine (R_bipush zf230_166 zb_37 rfl).trans ?_
  refine (R_iconst zf230_168 zw_4 rfl).trans ?_
  refine (R_aload_n zf230_169 rfl zlt_110 rfl).trans ?_
  refine (R_bipush zf230_170 zb_36 rfl).trans ?_
  refine (R_ialdc zf230_172 zk_110 (by decide) rfl rfl).trans ?_
  refine (R_imul zf230_173 rfl).trans ?_
  refine (R_iadd zf230_174 rfl).trans ?_
  refine (R_istore (ls' := [.inr (.inr (.inl 97)), .inr (.inr (.inl 110)), .inl x0, .inl x1, z2, z3, .inl x4, .inl x5, .inl (wI (37 + (wI (4 * (h 110 36)))))]) zf230_175 (Nat.le_of_ble_eq_true rfl) rfl rfl).trans ?_
  refine (R_aload_n zf230_177 rfl zlt_110 rfl).trans ?_
  refine (R_iload zf230_178 rfl rfl).trans ?_
  refine (R_iload_n zf230_180 rfl rfl).trans ?_
  refine (R_iast zf230_181 zk_110 rfl).trans ?_
  refine ite_congr rfl (fun c1_ => ?_) (fun _ => rfl)
  refine (R_aload_n zf230_182 rfl zlt_110 rfl).trans ?_
  refine (R_iload zf230_183 rfl rfl).trans ?_
  refine (R_iconst zf230_185 zw_1 rfl).trans ?_
  refine (R_iadd zf230_186 rfl).trans ?_
  refine (R_iload zf230_187 rfl rfl).trans ?_
  refine (R_iast zf230_189 zk_110 rfl).trans ?_
  refine ite_congr rfl (fun c2_ => ?_) (fun _ => rfl)
  refine (R_aload_n zf230_190 rfl zlt_110 rfl).trans ?_
  refine (R_iload zf230_191 rfl rfl).trans ?_
  refine (R_iconst zf230_193 zw_2 rfl).trans ?_
  refine (R_iadd zf230_194 rfl).trans ?_
  refine (R_iload zf230_195 rfl rfl).trans ?_
  refine (R_iast zf230_197 zk_110 rfl).trans ?_
  refine ite_congr rfl (fun c3_ => ?_) (fun _ => rfl)
  refine (R_aload_n zf230_198 rfl zlt_110 rfl).trans ?_
  refine (R_iload zf230_199 rfl rfl).trans ?_
  refine (R_iconst zf230_201 zw_3 rfl).trans ?_
  refine (R_iadd zf230_202 rfl).trans ?_
  refine (R_iload_n zf230_203 rfl rfl).trans ?_
  refine (R_iast zf230_204 zk_110 rfl).trans ?_
  refine ite_congr rfl (fun c4_ => ?_) (fun _ => rfl)
  refine (R_aload_n zf230_205 rfl zlt_110 rfl).trans ?_
  refine (R_bipush zf230_206 zb_36 rfl).trans ?_
  refine (R_dup2 zf230_208 rfl rfl rfl).trans ?_
  refine (R_ialdc zf230_209 zk_110 (by decide) rfl rfl).trans ?_
  refine (R_iconst zf230_210 zw_1 rfl).trans ?_
  refine (R_iadd zf230_211 rfl).trans ?_
  refine (R_iastc zf230_212 zk_110 (by decide) rfl rfl).trans ?_
  refine (R_iload zf230_213 rfl rfl).trans ?_
  exact R_ireturn_i zf230_215 zr_230
-- CannonPostModel.shoots([IIIII)I at 128
theorem q230_128 (d : Nat) (x0 : Int) (x1 : Int) (z2 : MV) (hz2 : cat z2 = 1) (z3 : MV) (hz3 : cat z3 = 1) (x4 : Int) (x5 : Int) (x6 : Int) (h : MH) : Run (d + 1) 230 128 [.inr (.inr (.inl 97)), .inr (.inr (.inl 110)), .inl x0, .inl x1, z2, z3, .inl x4, .inl x5, .inl x6] [] h = (if 236 < x6 then Run (d + 1) 230 166 [.inr (.inr (.inl 97)), .inr (.inr (.inl 110)), .inl x0, .inl x1, z2, z3, .inl x4, .inl x5, .inl x6] [] (up h 110 36 (wI ((h 110 36) - 1))) else (if 0 ≤ (wI ((wI (36 + x6)) + 4)) ∧ (wI ((wI (36 + x6)) + 4)) < 277 then (if 0 ≤ (wI (36 + x6)) ∧ (wI (36 + x6)) < 277 then Run (d + 1) 230 128 [.inr (.inr (.inl 97)), .inr (.inr (.inl 110)), .inl x0, .inl x1, z2, z3, .inl x4, .inl x5, .inl (wI (x6 + 1))] [] (up h 110 (wI (36 + x6)).toNat (h 110 (wI ((wI (36 + x6)) + 4)).toNat)) else none) else none)) := by
  refine (R_iload zf230_128 rfl rfl).trans ?_
  refine (R_sipush zf230_130 zs_236 rfl).trans ?_
  refine (R_icmp_gt (t := 158) zf230_133 rfl rfl).trans ?_
  refine ite_congr rfl (fun c1_ => ?_) (fun c1_ => ?_)
  · refine (R_aload_n zf230_158 rfl zlt_110 rfl).trans ?_
    refine (R_bipush zf230_159 zb_36 rfl).trans ?_
    refine (R_dup2 zf230_161 rfl rfl rfl).trans ?_
    refine (R_ialdc zf230_162 zk_110 (by decide) rfl rfl).trans ?_
    refine (R_iconst zf230_163 zw_1 rfl).trans ?_
    refine (R_isub zf230_164 rfl).trans ?_
    refine (R_iastc zf230_165 zk_110 (by decide) rfl rfl).trans ?_
    rfl
  · refine (R_aload_n zf230_136 rfl zlt_110 rfl).trans ?_
    refine (R_bipush zf230_137 zb_36 rfl).trans ?_
    refine (R_iload zf230_139 rfl rfl).trans ?_
    refine (R_iadd zf230_141 rfl).trans ?_
    refine (R_aload_n zf230_142 rfl zlt_110 rfl).trans ?_
    refine (R_bipush zf230_143 zb_36 rfl).trans ?_
    refine (R_iload zf230_145 rfl rfl).trans ?_
    refine (R_iadd zf230_147 rfl).trans ?_
    refine (R_iconst zf230_148 zw_4 rfl).trans ?_
    refine (R_iadd zf230_149 rfl).trans ?_
    refine (R_iald zf230_150 zk_110 rfl).trans ?_
    refine ite_congr rfl (fun c2_ => ?_) (fun _ => rfl)
    refine (R_iast zf230_151 zk_110 rfl).trans ?_
    refine ite_congr rfl (fun c3_ => ?_) (fun _ => rfl)
    refine (R_iinc (ls' := [.inr (.inr (.inl 97)), .inr (.inr (.inl 110)), .inl x0, .inl x1, z2, z3, .inl x4, .inl x5, .inl (wI (x6 + 1))]) zf230_152 rfl rfl rfl).trans ?_
    refine (R_goto (t := 128) zf230_155 rfl).trans ?_
    rfl
-- CannonPostModel.has(II)Z at 0
theorem q192_0 (d : Nat) (x0 : Int) (x1 : Int) (h : MH) : Run d 192 0 [.inl x0, .inl x1] [] h = (if ¬ (iAnd (iShr x0 x1) 1) = 1 then some (some (.inl 0), h) else some (some (.inl 1), h)) := by
  refine (R_iload_n zf192_0 rfl rfl).trans ?_
  refine (R_iload_n zf192_1 rfl rfl).trans ?_
  refine (R_ishr zf192_2 rfl).trans ?_
  refine (R_iconst zf192_3 zw_1 rfl).trans ?_
  refine (R_iand zf192_4 rfl).trans ?_
  refine (R_iconst zf192_5 zw_1 rfl).trans ?_
  refine (R_icmp_ne (t := 13) zf192_6 rfl rfl).trans ?_
  refine ite_congr rfl (fun c1_ => ?_) (fun c1_ => ?_)
  · refine (R_iconst zf192_13 zw_0 rfl).trans ?_
    exact R_ireturn zf192_14 (by rw [zr_192]; rfl)
  · refine (R_iconst zf192_9 zw_1 rfl).trans ?_
    refine (R_goto (t := 14) zf192_10 rfl).trans ?_
    exact R_ireturn zf192_14 (by rw [zr_192]; rfl)
-- CannonPostModel.goHour([I)V at 0
theorem q247_0 (d : Nat) (h : MH) : Run (d + 1) 247 0 [.inr (.inr (.inl 97)), .inr (.inr (.inl 110)), vU] [] h = Run (d + 1) 247 2 [.inr (.inr (.inl 97)), .inr (.inr (.inl 110)), .inl 0] [] h := by
  refine (R_iconst zf247_0 zw_0 rfl).trans ?_
  refine (R_istore_n (ls' := [.inr (.inr (.inl 97)), .inr (.inr (.inl 110)), .inl 0]) zf247_1 (Nat.le_of_ble_eq_true rfl) rfl rfl).trans ?_
  rfl
-- CannonPostModel.draw(I)I at 0
theorem q249_0 (d : Nat) (x0 : Int) (h : MH) : Run d 249 0 [.inr (.inr (.inl 97)), .inl x0] [] h = (if x0 = 0 then none else some (some (.inl (wI ((lUshr ((up h 97 38 (wL ((wL ((h 97 38) * 6364136223846793005)) + 1442695040888963407))) 97 38) 33).tmod x0))), (up h 97 38 (wL ((wL ((h 97 38) * 6364136223846793005)) + 1442695040888963407))))) := by
  refine (R_aload_n zf249_0 rfl zlt_97 rfl).trans ?_
  refine (R_aload_n zf249_1 rfl zlt_97 rfl).trans ?_
  refine (R_getL zf249_2 zo_249 zfl_12_406 zk1_97 zft_12_38 rfl).trans ?_
  refine (R_ldc2_w zf249_5 zo_249 zll_12_410 rfl).trans ?_
  refine (R_lmul zf249_8 rfl).trans ?_
  refine (R_ldc2_w zf249_9 zo_249 zll_12_412 rfl).trans ?_
  refine (R_ladd zf249_12 rfl).trans ?_
  refine (R_putL zf249_13 zo_249 zfl_12_406 zk1_97 zft_12_38 rfl).trans ?_
  refine (R_aload_n zf249_16 rfl zlt_97 rfl).trans ?_
  refine (R_getL zf249_17 zo_249 zfl_12_406 zk1_97 zft_12_38 rfl).trans ?_
  refine (R_bipush zf249_20 zb_33 rfl).trans ?_
  refine (R_lushr zf249_22 rfl).trans ?_
  refine (R_iload_n zf249_23 rfl rfl).trans ?_
  refine (R_i2l zf249_24 rfl).trans ?_
  refine (R_lrem0 zf249_25 rfl).trans ?_
  refine ite_congr rfl (fun _ => rfl) (fun _ => ?_)
  refine (R_l2i zf249_26 rfl).trans ?_
  exact R_ireturn_i zf249_27 zr_249
-- CannonPostModel.decades(IJ)I at 65
theorem q248_65 (d : Nat) (x0 : Int) (x1 : Int) (z2 : MV) (hz2 : cat z2 = 1) (x3 : Int) (z4 : MV) (hz4 : cat z4 = 1) (z5 : MV) (hz5 : cat z5 = 1) (z6 : MV) (hz6 : cat z6 = 1) (z7 : MV) (hz7 : cat z7 = 1) (h : MH) : Run (d + 1) 248 65 [.inr (.inr (.inl 97)), .inl x0, .inr (.inl x1), z2, .inl x3, z4, z5, z6, z7] [] h = (cI (Run d 249 0 [.inr (.inr (.inl 97)), .inl (h 97 27)] [] h) fun a2_ h1_ => (cI (Run d 249 0 [.inr (.inr (.inl 97)), .inl 2] [] h1_) fun a4_ h3_ => (cI (Run d 249 0 [.inr (.inr (.inl 97)), .inl 20] [] h3_) fun a6_ h5_ => (cI (Run d 227 0 [.inr (.inr (.inl 97)), .inr (.inr (.inl 110)), .inl a2_, .inl (wI (a6_ + 1)), .inl a4_] [] h5_) fun a8_ h7_ => (if a8_ = 0 then (cV (Run d 247 0 [.inr (.inr (.inl 97)), .inr (.inr (.inl 110)), vU] [] h7_) fun h10_ => Run (d + 1) 248 29 [.inr (.inr (.inl 97)), .inl x0, .inr (.inl x1), z2, .inl (wI (x3 + 1)), .inl a2_, .inl a4_, .inl (wI (a6_ + 1)), .inl (-1)] [] h10_) else (cI (Run d 250 0 [.inr (.inr (.inl 97)), .inr (.inr (.inl 110)), .inl a2_, vU, vU] [] h7_) fun a12_ h11_ => (cI (Run d 230 0 [.inr (.inr (.inl 97)), .inr (.inr (.inl 110)), .inl a2_, .inl (wI (a6_ + 1)), .inl a4_, .inl a12_, vU, vU, vU] [] h11_) fun a14_ h13_ => (cV (Run d 247 0 [.inr (.inr (.inl 97)), .inr (.inr (.inl 110)), vU] [] h13_) fun h15_ => Run (d + 1) 248 29 [.inr (.inr (.inl 97)), .inl x0, .inr (.inl x1), z2, .inl (wI (x3 + 1)), .inl a2_, .inl a4_, .inl (wI (a6_ + 1)), .inl a14_] [] h15_)))))))) := by
  refine (R_aload_n zf248_65 rfl zlt_97 rfl).trans ?_
  refine (R_aload_n zf248_66 rfl zlt_97 rfl).trans ?_
  refine (R_getI zf248_67 zo_248 zfl_12_297 zk1_97 zft_12_27 rfl).trans ?_
  refine (R_vcallI zf248_70 zo_248 zvl_12_414 (by rw [zr_249]; rfl) zl_249 (Nat.le_of_ble_eq_true rfl) rfl rfl (Nat.le_of_ble_eq_true rfl) (Nat.le_of_ble_eq_true rfl) (es := [.inr (.inr (.inl 97)), .inl (h 97 27)]) rfl rfl zk1_97 zo_249).trans ?_
  refine congrArg (cI _) (funext fun a2_ => funext fun h1_ => ?_)
  refine (R_istore (ls' := [.inr (.inr (.inl 97)), .inl x0, .inr (.inl x1), z2, .inl x3, .inl a2_, z5, z6, z7]) zf248_73 (Nat.le_of_ble_eq_true rfl) rfl rfl).trans ?_
  refine (R_aload_n zf248_75 rfl zlt_97 rfl).trans ?_
  refine (R_iconst zf248_76 zw_2 rfl).trans ?_
  refine (R_vcallI zf248_77 zo_248 zvl_12_414 (by rw [zr_249]; rfl) zl_249 (Nat.le_of_ble_eq_true rfl) rfl rfl (Nat.le_of_ble_eq_true rfl) (Nat.le_of_ble_eq_true rfl) (es := [.inr (.inr (.inl 97)), .inl 2]) rfl rfl zk1_97 zo_249).trans ?_
  refine congrArg (cI _) (funext fun a4_ => funext fun h3_ => ?_)
  refine (R_istore (ls' := [.inr (.inr (.inl 97)), .inl x0, .inr (.inl x1), z2, .inl x3, .inl a2_, .inl a4_, z6, z7]) zf248_80 (Nat.le_of_ble_eq_true rfl) rfl rfl).trans ?_
  refine (R_aload_n zf248_82 rfl zlt_97 rfl).trans ?_
  refine (R_bipush zf248_83 zb_20 rfl).trans ?_
  refine (R_vcallI zf248_85 zo_248 zvl_12_414 (by rw [zr_249]; rfl) zl_249 (Nat.le_of_ble_eq_true rfl) rfl rfl (Nat.le_of_ble_eq_true rfl) (Nat.le_of_ble_eq_true rfl) (es := [.inr (.inr (.inl 97)), .inl 20]) rfl rfl zk1_97 zo_249).trans ?_
  refine congrArg (cI _) (funext fun a6_ => funext fun h5_ => ?_)
  refine (R_iconst zf248_88 zw_1 rfl).trans ?_
  refine (R_iadd zf248_89 rfl).trans ?_
  refine (R_istore (ls' := [.inr (.inr (.inl 97)), .inl x0, .inr (.inl x1), z2, .inl x3, .inl a2_, .inl a4_, .inl (wI (a6_ + 1)), z7]) zf248_90 (Nat.le_of_ble_eq_true rfl) rfl rfl).trans ?_
  refine (R_aload_n zf248_92 rfl zlt_97 rfl).trans ?_
  refine (R_aload_n zf248_93 rfl zlt_97 rfl).trans ?_
  refine (R_getR zf248_94 zo_248 zfl_12_61 zk1_97 zft_12_32 zmr_97_32 rfl).trans ?_
  refine (R_iload zf248_97 rfl rfl).trans ?_
  refine (R_iload zf248_99 rfl rfl).trans ?_
  refine (R_iload zf248_101 rfl rfl).trans ?_
  refine (R_vcallI zf248_103 zo_248 zvl_12_372 (by rw [zr_227]; rfl) zl_227 (Nat.le_of_ble_eq_true rfl) rfl rfl (Nat.le_of_ble_eq_true rfl) (Nat.le_of_ble_eq_true rfl) (es := [.inr (.inr (.inl 97)), .inr (.inr (.inl 110)), .inl a2_, .inl (wI (a6_ + 1)), .inl a4_]) rfl rfl zk1_97 zo_227).trans ?_
  refine congrArg (cI _) (funext fun a8_ => funext fun h7_ => ?_)
  refine (R_if_eq (t := 136) zf248_106 rfl rfl).trans ?_
  refine ite_congr rfl (fun c9_ => ?_) (fun c9_ => ?_)
  · refine (R_iconst zf248_136 zw_m1 rfl).trans ?_
    refine (R_istore (ls' := [.inr (.inr (.inl 97)), .inl x0, .inr (.inl x1), z2, .inl x3, .inl a2_, .inl a4_, .inl (wI (a6_ + 1)), .inl (-1)]) zf248_137 (Nat.le_of_ble_eq_true rfl) rfl rfl).trans ?_
    refine (R_aload_n zf248_139 rfl zlt_97 rfl).trans ?_
    refine (R_aload_n zf248_140 rfl zlt_97 rfl).trans ?_
    refine (R_getR zf248_141 zo_248 zfl_12_61 zk1_97 zft_12_32 zmr_97_32 rfl).trans ?_
    refine (R_vcallV zf248_144 zo_248 zvl_12_402 zr_247 zl_247 (Nat.le_of_ble_eq_true rfl) rfl rfl (Nat.le_of_ble_eq_true rfl) (Nat.le_of_ble_eq_true rfl) (es := [.inr (.inr (.inl 97)), .inr (.inr (.inl 110)), vU]) rfl rfl zk1_97 zo_247).trans ?_
    refine congrArg (cV _) (funext fun h10_ => ?_)
    refine (R_iinc (ls' := [.inr (.inr (.inl 97)), .inl x0, .inr (.inl x1), z2, .inl (wI (x3 + 1)), .inl a2_, .inl a4_, .inl (wI (a6_ + 1)), .inl (-1)]) zf248_147 rfl (st1_z rfl hz2 rfl) rfl).trans ?_
    refine (R_goto (t := 29) zf248_150 rfl).trans ?_
    rfl
  · refine (R_aload_n zf248_109 rfl zlt_97 rfl).trans ?_
    refine (R_aload_n zf248_110 rfl zlt_97 rfl).trans ?_
    refine (R_getR zf248_111 zo_248 zfl_12_61 zk1_97 zft_12_32 zmr_97_32 rfl).trans ?_
    refine (R_iload zf248_114 rfl rfl).trans ?_
    refine (R_iload zf248_116 rfl rfl).trans ?_
    refine (R_iload zf248_118 rfl rfl).trans ?_
    refine (R_aload_n zf248_120 rfl zlt_97 rfl).trans ?_
    refine (R_aload_n zf248_121 rfl zlt_97 rfl).trans ?_
    refine (R_getR zf248_122 zo_248 zfl_12_61 zk1_97 zft_12_32 zmr_97_32 rfl).trans ?_
    refine (R_iload zf248_125 rfl rfl).trans ?_
    refine (R_vcallI zf248_127 zo_248 zvl_12_417 (by rw [zr_250]; rfl) zl_250 (Nat.le_of_ble_eq_true rfl) rfl rfl (Nat.le_of_ble_eq_true rfl) (Nat.le_of_ble_eq_true rfl) (es := [.inr (.inr (.inl 97)), .inr (.inr (.inl 110)), .inl a2_, vU, vU]) rfl rfl zk1_97 zo_250).trans ?_
    refine congrArg (cI _) (funext fun a12_ => funext fun h11_ => ?_)
    refine (R_vcallI zf248_130 zo_248 zvl_12_381 (by rw [zr_230]; rfl) zl_230 (Nat.le_of_ble_eq_true rfl) rfl rfl (Nat.le_of_ble_eq_true rfl) (Nat.le_of_ble_eq_true rfl) (es := [.inr (.inr (.inl 97)), .inr (.inr (.inl 110)), .inl a2_, .inl (wI (a6_ + 1)), .inl a4_, .inl a12_, vU, vU, vU]) rfl rfl zk1_97 zo_230).trans ?_
    refine congrArg (cI _) (funext fun a14_ => funext fun h13_ => ?_)
    refine (R_goto (t := 137) zf248_133 rfl).trans ?_
    refine (R_istore (ls' := [.inr (.inr (.inl 97)), .inl x0, .inr (.inl x1), z2, .inl x3, .inl a2_, .inl a4_, .inl (wI (a6_ + 1)), .inl a14_]) zf248_137 (Nat.le_of_ble_eq_true rfl) rfl rfl).trans ?_
    refine (R_aload_n zf248_139 rfl zlt_97 rfl).trans ?_
    refine (R_aload_n zf248_140 rfl zlt_97 rfl).trans ?_
    refine (R_getR zf248_141 zo_248 zfl_12_61 zk1_97 zft_12_32 zmr_97_32 rfl).trans ?_
    refine (R_vcallV zf248_144 zo_248 zvl_12_402 zr_247 zl_247 (Nat.le_of_ble_eq_true rfl) rfl rfl (Nat.le_of_ble_eq_true rfl) (Nat.le_of_ble_eq_true rfl) (es := [.inr (.inr (.inl 97)), .inr (.inr (.inl 110)), vU]) rfl rfl zk1_97 zo_247).trans ?_
    refine congrArg (cV _) (funext fun h15_ => ?_)
    refine (R_iinc (ls' := [.inr (.inr (.inl 97)), .inl x0, .inr (.inl x1), z2, .inl (wI (x3 + 1)), .inl a2_, .inl a4_, .inl (wI (a6_ + 1)), .inl a14_]) zf248_147 rfl (st1_z rfl hz2 rfl) rfl).trans ?_
    refine (R_goto (t := 29) zf248_150 rfl).trans ?_
    rfl
-- CannonPostModel.copy([I[I)V at 12
theorem q256_12 (d : Nat) (x0 : Int) (x1 : Int) (h : MH) : Run d 256 12 [.inr (.inr (.inl 110)), .inr (.inr (.inl 111)), .inl x0, .inl x1] [] h = (if x0 ≤ x1 then some (none, h) else (if 0 ≤ x1 ∧ x1 < 277 then (if 0 ≤ x1 ∧ x1 < 277 then Run d 256 12 [.inr (.inr (.inl 110)), .inr (.inr (.inl 111)), .inl x0, .inl (wI (x1 + 1))] [] (up h 111 x1.toNat (h 110 x1.toNat)) else none) else none)) := by
  refine (R_iload_n zf256_12 rfl rfl).trans ?_
  refine (R_iload_n zf256_13 rfl rfl).trans ?_
  refine (R_icmp_ge (t := 29) zf256_14 rfl rfl).trans ?_
  refine ite_congr rfl (fun c1_ => ?_) (fun c1_ => ?_)
  · exact R_return zf256_29 zr_256
  · refine (R_aload_n zf256_17 rfl zlt_111 rfl).trans ?_
    refine (R_iload_n zf256_18 rfl rfl).trans ?_
    refine (R_aload_n zf256_19 rfl zlt_110 rfl).trans ?_
    refine (R_iload_n zf256_20 rfl rfl).trans ?_
    refine (R_iald zf256_21 zk_110 rfl).trans ?_
    refine ite_congr rfl (fun c2_ => ?_) (fun _ => rfl)
    refine (R_iast zf256_22 zk_111 rfl).trans ?_
    refine ite_congr rfl (fun c3_ => ?_) (fun _ => rfl)
    refine (R_iinc (ls' := [.inr (.inr (.inl 110)), .inr (.inr (.inl 111)), .inl x0, .inl (wI (x1 + 1))]) zf256_23 rfl rfl rfl).trans ?_
    refine (R_goto (t := 12) zf256_26 rfl).trans ?_
    rfl
-- CannonPostModel.run(II)I at 122
theorem q255_122 (d : Nat) (x0 : Int) (x1 : Int) (x2 : Int) (z3 : MV) (hz3 : cat z3 = 1) (z4 : MV) (hz4 : cat z4 = 1) (h : MH) : Run (d + 1) 255 122 [.inr (.inr (.inl 97)), .inl x0, .inl x1, .inl x2, z3, z4] [] h = (if ¬ x1 = 1 then (if 0 ≤ x0 ∧ x0 < 5 then (if ¬ x2 = (h 109 x0.toNat) then some (some (.inl x2), h) else some (some (.inl (-1)), h)) else none) else some (some (.inl (wI ((h 110 31) - (h 111 31)))), h)) := by
  refine (R_iload_n zf255_122 rfl rfl).trans ?_
  refine (R_iconst zf255_123 zw_1 rfl).trans ?_
  refine (R_icmp_ne (t := 143) zf255_124 rfl rfl).trans ?_
  refine ite_congr rfl (fun c1_ => ?_) (fun c1_ => ?_)
  · refine (R_iload_n zf255_143 rfl rfl).trans ?_
    refine (R_aload_n zf255_144 rfl zlt_97 rfl).trans ?_
    refine (R_getR zf255_145 zo_255 zfl_12_58 zk1_97 zft_12_25 zmr_97_25 rfl).trans ?_
    refine (R_iload_n zf255_148 rfl rfl).trans ?_
    refine (R_iald zf255_149 zk_109 rfl).trans ?_
    refine ite_congr rfl (fun c2_ => ?_) (fun _ => rfl)
    refine (R_icmp_ne (t := 157) zf255_150 rfl rfl).trans ?_
    refine ite_congr rfl (fun c3_ => ?_) (fun c3_ => ?_)
    · refine (R_iload_n zf255_157 rfl rfl).trans ?_
      exact R_ireturn_i zf255_158 zr_255
    · refine (R_iconst zf255_153 zw_m1 rfl).trans ?_
      refine (R_goto (t := 158) zf255_154 rfl).trans ?_
      exact R_ireturn_i zf255_158 zr_255
  · refine (R_aload_n zf255_127 rfl zlt_97 rfl).trans ?_
    refine (R_getR zf255_128 zo_255 zfl_12_61 zk1_97 zft_12_32 zmr_97_32 rfl).trans ?_
    refine (R_bipush zf255_131 zb_31 rfl).trans ?_
    refine (R_ialdc zf255_133 zk_110 (by decide) rfl rfl).trans ?_
    refine (R_aload_n zf255_134 rfl zlt_97 rfl).trans ?_
    refine (R_getR zf255_135 zo_255 zfl_12_64 zk1_97 zft_12_33 zmr_97_33 rfl).trans ?_
    refine (R_bipush zf255_138 zb_31 rfl).trans ?_
    refine (R_ialdc zf255_140 zk_111 (by decide) rfl rfl).trans ?_
    refine (R_isub zf255_141 rfl).trans ?_
    exact R_ireturn_i zf255_142 zr_255
-- CannonPostModel.canStep([II)Z at 0
theorem q257_0 (d : Nat) (x0 : Int) (h : MH) : Run (d + 1) 257 0 [.inr (.inr (.inl 97)), .inr (.inr (.inl 111)), .inl x0, vU, vU] [] h = (if 0 ≤ (wI (x0 + 1)) ∧ (wI (x0 + 1)) < 320 then (if 0 ≤ (wI (x0 + 2)) ∧ (wI (x0 + 2)) < 320 then (if 0 ≤ x0 ∧ x0 < 320 then (if (h 108 x0.toNat) = 0 then (if 0 ≤ (wI (x0 + 3)) ∧ (wI (x0 + 3)) < 320 then (cI (Run d 227 0 [.inr (.inr (.inl 97)), .inr (.inr (.inl 111)), .inl (h 108 (wI (x0 + 1)).toNat), .inl (h 108 (wI (x0 + 3)).toNat), .inl (h 108 (wI (x0 + 2)).toNat)] [] h) fun a7_ h6_ => (if a7_ = 0 ∨ a7_ = 1 then some (some (.inl a7_), h6_) else none)) else none) else (if (h 108 x0.toNat) = 1 then (cI (Run d 246 0 [.inr (.inr (.inl 97)), .inr (.inr (.inl 111)), .inl (h 108 (wI (x0 + 1)).toNat), .inl 9] [] h) fun a10_ h9_ => (if a10_ = 0 ∨ a10_ = 1 then some (some (.inl a10_), h9_) else none)) else (if (h 108 x0.toNat) = 2 then (cI (Run d 242 0 [.inr (.inr (.inl 97)), .inr (.inr (.inl 111)), .inl (h 108 (wI (x0 + 1)).toNat), .inl (h 108 (wI (x0 + 2)).toNat)] [] h) fun a13_ h12_ => (if a13_ = 0 ∨ a13_ = 1 then some (some (.inl a13_), h12_) else none)) else (cI (Run d 238 0 [.inr (.inr (.inl 97)), .inr (.inr (.inl 111)), .inl (h 108 (wI (x0 + 1)).toNat), .inl (h 108 (wI (x0 + 2)).toNat)] [] h) fun a15_ h14_ => (if a15_ = 0 ∨ a15_ = 1 then some (some (.inl a15_), h14_) else none))))) else none) else none) else none) := by
  refine (R_aload_n zf257_0 rfl zlt_97 rfl).trans ?_
  refine (R_getR zf257_1 zo_257 zfl_12_55 zk1_97 zft_12_24 zmr_97_24 rfl).trans ?_
  refine (R_iload_n zf257_4 rfl rfl).trans ?_
  refine (R_iconst zf257_5 zw_1 rfl).trans ?_
  refine (R_iadd zf257_6 rfl).trans ?_
  refine (R_iald zf257_7 zk_108 rfl).trans ?_
  refine ite_congr rfl (fun c1_ => ?_) (fun _ => rfl)
  refine (R_istore_n (ls' := [.inr (.inr (.inl 97)), .inr (.inr (.inl 111)), .inl x0, .inl (h 108 (wI (x0 + 1)).toNat), vU]) zf257_8 (Nat.le_of_ble_eq_true rfl) rfl rfl).trans ?_
  refine (R_aload_n zf257_9 rfl zlt_97 rfl).trans ?_
  refine (R_getR zf257_10 zo_257 zfl_12_55 zk1_97 zft_12_24 zmr_97_24 rfl).trans ?_
  refine (R_iload_n zf257_13 rfl rfl).trans ?_
  refine (R_iconst zf257_14 zw_2 rfl).trans ?_
  refine (R_iadd zf257_15 rfl).trans ?_
  refine (R_iald zf257_16 zk_108 rfl).trans ?_
  refine ite_congr rfl (fun c2_ => ?_) (fun _ => rfl)
  refine (R_istore (ls' := [.inr (.inr (.inl 97)), .inr (.inr (.inl 111)), .inl x0, .inl (h 108 (wI (x0 + 1)).toNat), .inl (h 108 (wI (x0 + 2)).toNat)]) zf257_17 (Nat.le_of_ble_eq_true rfl) rfl rfl).trans ?_
  refine (R_aload_n zf257_19 rfl zlt_97 rfl).trans ?_
  refine (R_getR zf257_20 zo_257 zfl_12_55 zk1_97 zft_12_24 zmr_97_24 rfl).trans ?_
  refine (R_iload_n zf257_23 rfl rfl).trans ?_
  refine (R_iald zf257_24 zk_108 rfl).trans ?_
  refine ite_congr rfl (fun c3_ => ?_) (fun _ => rfl)
  refine (switch_if (c := (h 108 x0.toNat) = 0) (fun c4_ => ?_) (fun c4_ => ?_))
  · refine (R_tsw (t := 52) zf257_25 (by omega) (by rw [c4_]; rfl) rfl).trans ?_
    refine (R_aload_n zf257_52 rfl zlt_97 rfl).trans ?_
    refine (R_aload_n zf257_53 rfl zlt_111 rfl).trans ?_
    refine (R_iload_n zf257_54 rfl rfl).trans ?_
    refine (R_aload_n zf257_55 rfl zlt_97 rfl).trans ?_
    refine (R_getR zf257_56 zo_257 zfl_12_55 zk1_97 zft_12_24 zmr_97_24 rfl).trans ?_
    refine (R_iload_n zf257_59 rfl rfl).trans ?_
    refine (R_iconst zf257_60 zw_3 rfl).trans ?_
    refine (R_iadd zf257_61 rfl).trans ?_
    refine (R_iald zf257_62 zk_108 rfl).trans ?_
    refine ite_congr rfl (fun c5_ => ?_) (fun _ => rfl)
    refine (R_iload zf257_63 rfl rfl).trans ?_
    refine (R_vcallI zf257_65 zo_257 zvl_12_372 (by rw [zr_227]; rfl) zl_227 (Nat.le_of_ble_eq_true rfl) rfl rfl (Nat.le_of_ble_eq_true rfl) (Nat.le_of_ble_eq_true rfl) (es := [.inr (.inr (.inl 97)), .inr (.inr (.inl 111)), .inl (h 108 (wI (x0 + 1)).toNat), .inl (h 108 (wI (x0 + 3)).toNat), .inl (h 108 (wI (x0 + 2)).toNat)]) rfl rfl zk1_97 zo_227).trans ?_
    refine congrArg (cI _) (funext fun a7_ => funext fun h6_ => ?_)
    exact R_ireturn_z zf257_68 zr_257
  refine (switch_if (c := (h 108 x0.toNat) = 1) (fun c8_ => ?_) (fun c8_ => ?_))
  · refine (R_tsw (t := 69) zf257_25 (by omega) (by rw [c8_]; rfl) rfl).trans ?_
    refine (R_aload_n zf257_69 rfl zlt_97 rfl).trans ?_
    refine (R_aload_n zf257_70 rfl zlt_111 rfl).trans ?_
    refine (R_iload_n zf257_71 rfl rfl).trans ?_
    refine (R_bipush zf257_72 zb_9 rfl).trans ?_
    refine (R_vcallI zf257_74 zo_257 zvl_12_399 (by rw [zr_246]; rfl) zl_246 (Nat.le_of_ble_eq_true rfl) rfl rfl (Nat.le_of_ble_eq_true rfl) (Nat.le_of_ble_eq_true rfl) (es := [.inr (.inr (.inl 97)), .inr (.inr (.inl 111)), .inl (h 108 (wI (x0 + 1)).toNat), .inl 9]) rfl rfl zk1_97 zo_246).trans ?_
    refine congrArg (cI _) (funext fun a10_ => funext fun h9_ => ?_)
    exact R_ireturn_z zf257_77 zr_257
  refine (switch_if (c := (h 108 x0.toNat) = 2) (fun c11_ => ?_) (fun c11_ => ?_))
  · refine (R_tsw (t := 78) zf257_25 (by omega) (by rw [c11_]; rfl) rfl).trans ?_
    refine (R_aload_n zf257_78 rfl zlt_97 rfl).trans ?_
    refine (R_aload_n zf257_79 rfl zlt_111 rfl).trans ?_
    refine (R_iload_n zf257_80 rfl rfl).trans ?_
    refine (R_iload zf257_81 rfl rfl).trans ?_
    refine (R_vcallI zf257_83 zo_257 zvl_12_392 (by rw [zr_242]; rfl) zl_242 (Nat.le_of_ble_eq_true rfl) rfl rfl (Nat.le_of_ble_eq_true rfl) (Nat.le_of_ble_eq_true rfl) (es := [.inr (.inr (.inl 97)), .inr (.inr (.inl 111)), .inl (h 108 (wI (x0 + 1)).toNat), .inl (h 108 (wI (x0 + 2)).toNat)]) rfl rfl zk1_97 zo_242).trans ?_
    refine congrArg (cI _) (funext fun a13_ => funext fun h12_ => ?_)
    exact R_ireturn_z zf257_86 zr_257
  refine (R_tswD (t := 87) zf257_25 (by omega) rfl).trans ?_
  refine (R_aload_n zf257_87 rfl zlt_97 rfl).trans ?_
  refine (R_aload_n zf257_88 rfl zlt_111 rfl).trans ?_
  refine (R_iload_n zf257_89 rfl rfl).trans ?_
  refine (R_iload zf257_90 rfl rfl).trans ?_
  refine (R_vcallI zf257_92 zo_257 zvl_12_386 (by rw [zr_238]; rfl) zl_238 (Nat.le_of_ble_eq_true rfl) rfl rfl (Nat.le_of_ble_eq_true rfl) (Nat.le_of_ble_eq_true rfl) (es := [.inr (.inr (.inl 97)), .inr (.inr (.inl 111)), .inl (h 108 (wI (x0 + 1)).toNat), .inl (h 108 (wI (x0 + 2)).toNat)]) rfl rfl zk1_97 zo_238).trans ?_
  refine congrArg (cI _) (funext fun a15_ => funext fun h14_ => ?_)
  exact R_ireturn_z zf257_95 zr_257
-- CannonPostModel.run(II)I at 89
theorem q255_89 (d : Nat) (x0 : Int) (x1 : Int) (x2 : Int) (x3 : Int) (x4 : Int) (h : MH) : Run (d + 1) 255 89 [.inr (.inr (.inl 97)), .inl x0, .inl x1, .inl x2, .inl x3, .inl x4] [] h = (cI (Run d 258 0 [.inr (.inr (.inl 97)), .inl x3] [] h) fun a2_ h1_ => (if a2_ ≤ x4 then Run (d + 1) 255 47 [.inr (.inr (.inl 97)), .inl x0, .inl x1, .inl (wI (x2 + 1)), .inl x3, .inl x4] [] h1_ else (cV (Run d 259 0 [.inr (.inr (.inl 97)), .inr (.inr (.inl 111)), .inl x3, vU, vU, vU] [] h1_) fun h4_ => Run (d + 1) 255 89 [.inr (.inr (.inl 97)), .inl x0, .inl x1, .inl x2, .inl x3, .inl (wI (x4 + 1))] [] h4_))) := by
  refine (R_iload zf255_89 rfl rfl).trans ?_
  refine (R_aload_n zf255_91 rfl zlt_97 rfl).trans ?_
  refine (R_iload zf255_92 rfl rfl).trans ?_
  refine (R_vcallI zf255_94 zo_255 zvl_12_432 (by rw [zr_258]; rfl) zl_258 (Nat.le_of_ble_eq_true rfl) rfl rfl (Nat.le_of_ble_eq_true rfl) (Nat.le_of_ble_eq_true rfl) (es := [.inr (.inr (.inl 97)), .inl x3]) rfl rfl zk1_97 zo_258).trans ?_
  refine congrArg (cI _) (funext fun a2_ => funext fun h1_ => ?_)
  refine (R_icmp_ge (t := 116) zf255_97 rfl rfl).trans ?_
  refine ite_congr rfl (fun c3_ => ?_) (fun c3_ => ?_)
  · refine (R_iinc (ls' := [.inr (.inr (.inl 97)), .inl x0, .inl x1, .inl (wI (x2 + 1)), .inl x3, .inl x4]) zf255_116 rfl rfl rfl).trans ?_
    refine (R_goto (t := 47) zf255_119 rfl).trans ?_
    rfl
  · refine (R_aload_n zf255_100 rfl zlt_97 rfl).trans ?_
    refine (R_aload_n zf255_101 rfl zlt_97 rfl).trans ?_
    refine (R_getR zf255_102 zo_255 zfl_12_64 zk1_97 zft_12_33 zmr_97_33 rfl).trans ?_
    refine (R_iload zf255_105 rfl rfl).trans ?_
    refine (R_vcallV zf255_107 zo_255 zvl_12_435 zr_259 zl_259 (Nat.le_of_ble_eq_true rfl) rfl rfl (Nat.le_of_ble_eq_true rfl) (Nat.le_of_ble_eq_true rfl) (es := [.inr (.inr (.inl 97)), .inr (.inr (.inl 111)), .inl x3, vU, vU, vU]) rfl rfl zk1_97 zo_259).trans ?_
    refine congrArg (cV _) (funext fun h4_ => ?_)
    refine (R_iinc (ls' := [.inr (.inr (.inl 97)), .inl x0, .inl x1, .inl x2, .inl x3, .inl (wI (x4 + 1))]) zf255_110 rfl rfl rfl).trans ?_
    refine (R_goto (t := 89) zf255_113 rfl).trans ?_
    rfl
-- CannonPostModel.canStep([II)Z at 0
theorem q257_0_1 (d : Nat) (x0 : Int) (h : MH) : Run (d + 1) 257 0 [.inr (.inr (.inl 97)), .inr (.inr (.inl 110)), .inl x0, vU, vU] [] h = (if 0 ≤ (wI (x0 + 1)) ∧ (wI (x0 + 1)) < 320 then (if 0 ≤ (wI (x0 + 2)) ∧ (wI (x0 + 2)) < 320 then (if 0 ≤ x0 ∧ x0 < 320 then (if (h 108 x0.toNat) = 0 then (if 0 ≤ (wI (x0 + 3)) ∧ (wI (x0 + 3)) < 320 then (cI (Run d 227 0 [.inr (.inr (.inl 97)), .inr (.inr (.inl 110)), .inl (h 108 (wI (x0 + 1)).toNat), .inl (h 108 (wI (x0 + 3)).toNat), .inl (h 108 (wI (x0 + 2)).toNat)] [] h) fun a7_ h6_ => (if a7_ = 0 ∨ a7_ = 1 then some (some (.inl a7_), h6_) else none)) else none) else (if (h 108 x0.toNat) = 1 then (cI (Run d 246 0 [.inr (.inr (.inl 97)), .inr (.inr (.inl 110)), .inl (h 108 (wI (x0 + 1)).toNat), .inl 9] [] h) fun a10_ h9_ => (if a10_ = 0 ∨ a10_ = 1 then some (some (.inl a10_), h9_) else none)) else (if (h 108 x0.toNat) = 2 then (cI (Run d 242 0 [.inr (.inr (.inl 97)), .inr (.inr (.inl 110)), .inl (h 108 (wI (x0 + 1)).toNat), .inl (h 108 (wI (x0 + 2)).toNat)] [] h) fun a13_ h12_ => (if a13_ = 0 ∨ a13_ = 1 then some (some (.inl a13_), h12_) else none)) else (cI (Run d 238 0 [.inr (.inr (.inl 97)), .inr (.inr (.inl 110)), .inl (h 108 (wI (x0 + 1)).toNat), .inl (h 108 (wI (x0 + 2)).toNat)] [] h) fun a15_ h14_ => (if a15_ = 0 ∨ a15_ = 1 then some (some (.inl a15_), h14_) else none))))) else none) else none) else none) := by
  refine (R_aload_n zf257_0 rfl zlt_97 rfl).trans ?_
  refine (R_getR zf257_1 zo_257 zfl_12_55 zk1_97 zft_12_24 zmr_97_24 rfl).trans ?_
  refine (R_iload_n zf257_4 rfl rfl).trans ?_
  refine (R_iconst zf257_5 zw_1 rfl).trans ?_
  refine (R_iadd zf257_6 rfl).trans ?_
  refine (R_iald zf257_7 zk_108 rfl).trans ?_
  refine ite_congr rfl (fun c1_ => ?_) (fun _ => rfl)
  refine (R_istore_n (ls' := [.inr (.inr (.inl 97)), .inr (.inr (.inl 110)), .inl x0, .inl (h 108 (wI (x0 + 1)).toNat), vU]) zf257_8 (Nat.le_of_ble_eq_true rfl) rfl rfl).trans ?_
  refine (R_aload_n zf257_9 rfl zlt_97 rfl).trans ?_
  refine (R_getR zf257_10 zo_257 zfl_12_55 zk1_97 zft_12_24 zmr_97_24 rfl).trans ?_
  refine (R_iload_n zf257_13 rfl rfl).trans ?_
  refine (R_iconst zf257_14 zw_2 rfl).trans ?_
  refine (R_iadd zf257_15 rfl).trans ?_
  refine (R_iald zf257_16 zk_108 rfl).trans ?_
  refine ite_congr rfl (fun c2_ => ?_) (fun _ => rfl)
  refine (R_istore (ls' := [.inr (.inr (.inl 97)), .inr (.inr (.inl 110)), .inl x0, .inl (h 108 (wI (x0 + 1)).toNat), .inl (h 108 (wI (x0 + 2)).toNat)]) zf257_17 (Nat.le_of_ble_eq_true rfl) rfl rfl).trans ?_
  refine (R_aload_n zf257_19 rfl zlt_97 rfl).trans ?_
  refine (R_getR zf257_20 zo_257 zfl_12_55 zk1_97 zft_12_24 zmr_97_24 rfl).trans ?_
  refine (R_iload_n zf257_23 rfl rfl).trans ?_
  refine (R_iald zf257_24 zk_108 rfl).trans ?_
  refine ite_congr rfl (fun c3_ => ?_) (fun _ => rfl)
  refine (switch_if (c := (h 108 x0.toNat) = 0) (fun c4_ => ?_) (fun c4_ => ?_))
  · refine (R_tsw (t := 52) zf257_25 (by omega) (by rw [c4_]; rfl) rfl).trans ?_
    refine (R_aload_n zf257_52 rfl zlt_97 rfl).trans ?_
    refine (R_aload_n zf257_53 rfl zlt_110 rfl).trans ?_
    refine (R_iload_n zf257_54 rfl rfl).trans ?_
    refine (R_aload_n zf257_55 rfl zlt_97 rfl).trans ?_
    refine (R_getR zf257_56 zo_257 zfl_12_55 zk1_97 zft_12_24 zmr_97_24 rfl).trans ?_
    refine (R_iload_n zf257_59 rfl rfl).trans ?_
    refine (R_iconst zf257_60 zw_3 rfl).trans ?_
    refine (R_iadd zf257_61 rfl).trans ?_
    refine (R_iald zf257_62 zk_108 rfl).trans ?_
    refine ite_congr rfl (fun c5_ => ?_) (fun _ => rfl)
    refine (R_iload zf257_63 rfl rfl).trans ?_
    refine (R_vcallI zf257_65 zo_257 zvl_12_372 (by rw [zr_227]; rfl) zl_227 (Nat.le_of_ble_eq_true rfl) rfl rfl (Nat.le_of_ble_eq_true rfl) (Nat.le_of_ble_eq_true rfl) (es := [.inr (.inr (.inl 97)), .inr (.inr (.inl 110)), .inl (h 108 (wI (x0 + 1)).toNat), .inl (h 108 (wI (x0 + 3)).toNat), .inl (h 108 (wI (x0 + 2)).toNat)]) rfl rfl zk1_97 zo_227).trans ?_
    refine congrArg (cI _) (funext fun a7_ => funext fun h6_ => ?_)
    exact R_ireturn_z zf257_68 zr_257
  refine (switch_if (c := (h 108 x0.toNat) = 1) (fun c8_ => ?_) (fun c8_ => ?_))
  · refine (R_tsw (t := 69) zf257_25 (by omega) (by rw [c8_]; rfl) rfl).trans ?_
    refine (R_aload_n zf257_69 rfl zlt_97 rfl).trans ?_
    refine (R_aload_n zf257_70 rfl zlt_110 rfl).trans ?_
    refine (R_iload_n zf257_71 rfl rfl).trans ?_
    refine (R_bipush zf257_72 zb_9 rfl).trans ?_
    refine (R_vcallI zf257_74 zo_257 zvl_12_399 (by rw [zr_246]; rfl) zl_246 (Nat.le_of_ble_eq_true rfl) rfl rfl (Nat.le_of_ble_eq_true rfl) (Nat.le_of_ble_eq_true rfl) (es := [.inr (.inr (.inl 97)), .inr (.inr (.inl 110)), .inl (h 108 (wI (x0 + 1)).toNat), .inl 9]) rfl rfl zk1_97 zo_246).trans ?_
    refine congrArg (cI _) (funext fun a10_ => funext fun h9_ => ?_)
    exact R_ireturn_z zf257_77 zr_257
  refine (switch_if (c := (h 108 x0.toNat) = 2) (fun c11_ => ?_) (fun c11_ => ?_))
  · refine (R_tsw (t := 78) zf257_25 (by omega) (by rw [c11_]; rfl) rfl).trans ?_
    refine (R_aload_n zf257_78 rfl zlt_97 rfl).trans ?_
    refine (R_aload_n zf257_79 rfl zlt_110 rfl).trans ?_
    refine (R_iload_n zf257_80 rfl rfl).trans ?_
    refine (R_iload zf257_81 rfl rfl).trans ?_
    refine (R_vcallI zf257_83 zo_257 zvl_12_392 (by rw [zr_242]; rfl) zl_242 (Nat.le_of_ble_eq_true rfl) rfl rfl (Nat.le_of_ble_eq_true rfl) (Nat.le_of_ble_eq_true rfl) (es := [.inr (.inr (.inl 97)), .inr (.inr (.inl 110)), .inl (h 108 (wI (x0 + 1)).toNat), .inl (h 108 (wI (x0 + 2)).toNat)]) rfl rfl zk1_97 zo_242).trans ?_
    refine congrArg (cI _) (funext fun a13_ => funext fun h12_ => ?_)
    exact R_ireturn_z zf257_86 zr_257
  refine (R_tswD (t := 87) zf257_25 (by omega) rfl).trans ?_
  refine (R_aload_n zf257_87 rfl zlt_97 rfl).trans ?_
  refine (R_aload_n zf257_88 rfl zlt_110 rfl).trans ?_
  refine (R_iload_n zf257_89 rfl rfl).trans ?_
  refine (R_iload zf257_90 rfl rfl).trans ?_
  refine (R_vcallI zf257_92 zo_257 zvl_12_386 (by rw [zr_238]; rfl) zl_238 (Nat.le_of_ble_eq_true rfl) rfl rfl (Nat.le_of_ble_eq_true rfl) (Nat.le_of_ble_eq_true rfl) (es := [.inr (.inr (.inl 97)), .inr (.inr (.inl 110)), .inl (h 108 (wI (x0 + 1)).toNat), .inl (h 108 (wI (x0 + 2)).toNat)]) rfl rfl zk1_97 zo_238).trans ?_
  refine congrArg (cI _) (funext fun a15_ => funext fun h14_ => ?_)
  exact R_ireturn_z zf257_95 zr_257
-- CannonPostModel.perform(I)I at 65
theorem q260_65 (d : Nat) (x0 : Int) (x1 : Int) (x2 : Int) (x3 : Int) (h : MH) : Run (d + 1) 260 65 [.inr (.inr (.inl 97)), .inl x0, .inl x1, .inl x2, .inl x3] [] h = (cI (Run d 258 0 [.inr (.inr (.inl 97)), .inl x2] [] h) fun a2_ h1_ => (if a2_ ≤ x3 then Run (d + 1) 260 24 [.inr (.inr (.inl 97)), .inl x0, .inl (wI (x1 + 1)), .inl x2, .inl x3] [] h1_ else (cV (Run d 229 0 [.inr (.inr (.inl 97)), vU] [] h1_) fun h4_ => (cV (Run d 259 0 [.inr (.inr (.inl 97)), .inr (.inr (.inl 110)), .inl x2, vU, vU, vU] [] h4_) fun h5_ => Run (d + 1) 260 65 [.inr (.inr (.inl 97)), .inl x0, .inl x1, .inl x2, .inl (wI (x3 + 1))] [] h5_)))) := by
  refine (R_iload zf260_65 rfl rfl).trans ?_
  refine (R_aload_n zf260_67 rfl zlt_97 rfl).trans ?_
  refine (R_iload_n zf260_68 rfl rfl).trans ?_
  refine (R_vcallI zf260_69 zo_260 zvl_12_432 (by rw [zr_258]; rfl) zl_258 (Nat.le_of_ble_eq_true rfl) rfl rfl (Nat.le_of_ble_eq_true rfl) (Nat.le_of_ble_eq_true rfl) (es := [.inr (.inr (.inl 97)), .inl x2]) rfl rfl zk1_97 zo_258).trans ?_
  refine congrArg (cI _) (funext fun a2_ => funext fun h1_ => ?_)
  refine (R_icmp_ge (t := 94) zf260_72 rfl rfl).trans ?_
  refine ite_congr rfl (fun c3_ => ?_) (fun c3_ => ?_)
  · refine (R_iinc (ls' := [.inr (.inr (.inl 97)), .inl x0, .inl (wI (x1 + 1)), .inl x2, .inl x3]) zf260_94 rfl rfl rfl).trans ?_
    refine (R_goto (t := 24) zf260_97 rfl).trans ?_
    rfl
  · refine (R_aload_n zf260_75 rfl zlt_97 rfl).trans ?_
    refine (R_vcallV zf260_76 zo_260 zvl_12_378 zr_229 zl_229 (Nat.le_of_ble_eq_true rfl) rfl rfl (Nat.le_of_ble_eq_true rfl) (Nat.le_of_ble_eq_true rfl) (es := [.inr (.inr (.inl 97)), vU]) rfl rfl zk1_97 zo_229).trans ?_
    refine congrArg (cV _) (funext fun h4_ => ?_)
    refine (R_aload_n zf260_79 rfl zlt_97 rfl).trans ?_
    refine (R_aload_n zf260_80 rfl zlt_97 rfl).trans ?_
    refine (R_getR zf260_81 zo_260 zfl_12_61 zk1_97 zft_12_32 zmr_97_32 rfl).trans ?_
    refine (R_iload_n zf260_84 rfl rfl).trans ?_
    refine (R_vcallV zf260_85 zo_260 zvl_12_435 zr_259 zl_259 (Nat.le_of_ble_eq_true rfl) rfl rfl (Nat.le_of_ble_eq_true rfl) (Nat.le_of_ble_eq_true rfl) (es := [.inr (.inr (.inl 97)), .inr (.inr (.inl 110)), .inl x2, vU, vU, vU]) rfl rfl zk1_97 zo_259).trans ?_
    refine congrArg (cV _) (funext fun h5_ => ?_)
    refine (R_iinc (ls' := [.inr (.inr (.inl 97)), .inl x0, .inl x1, .inl x2, .inl (wI (x3 + 1))]) zf260_88 rfl rfl rfl).trans ?_
    refine (R_goto (t := 65) zf260_91 rfl).trans ?_
    rfl
-- CannonPostModel.placeBy(IIIIIII)I at 0
theorem q232_0 (d : Nat) (x0 : Int) (x1 : Int) (x2 : Int) (x3 : Int) (x4 : Int) (x5 : Int) (x6 : Int) (h : MH) : Run (d + 1) 232 0 [.inr (.inr (.inl 97)), .inl x0, .inl x1, .inl x2, .inl x3, .inl x4, .inl x5, .inl x6, vU] [] h = (if ¬ x5 = x3 then (cI (Run d 233 0 [.inr (.inr (.inl 97)), .inl x0, .inl x1, .inl x2, .inl (wI (-x4)), .inl x6, vU] [] h) fun a3_ h2_ => (cI (Run d 234 0 [.inr (.inr (.inl 97)), .inl x1] [] h2_) fun a5_ h4_ => (if ¬ x3 = 0 then some (some (.inl (wI (a5_ + (wI (-a3_))))), h4_) else some (some (.inl (wI (a5_ + a3_))), h4_)))) else (cI (Run d 233 0 [.inr (.inr (.inl 97)), .inl x0, .inl x1, .inl x2, .inl x4, .inl x6, vU] [] h) fun a8_ h7_ => (cI (Run d 234 0 [.inr (.inr (.inl 97)), .inl x1] [] h7_) fun a10_ h9_ => (if ¬ x3 = 0 then some (some (.inl (wI (a10_ + (wI (-a8_))))), h9_) else some (some (.inl (wI (a10_ + a8_))), h9_))))) := by
  refine (R_aload_n zf232_0 rfl zlt_97 rfl).trans ?_
  refine (R_iload_n zf232_1 rfl rfl).trans ?_
  refine (R_iload_n zf232_2 rfl rfl).trans ?_
  refine (R_iload_n zf232_3 rfl rfl).trans ?_
  refine (R_iload zf232_4 rfl rfl).trans ?_
  refine (R_iload zf232_6 rfl rfl).trans ?_
  refine (R_icmp_ne (t := 16) zf232_8 rfl rfl).trans ?_
  refine ite_congr rfl (fun c1_ => ?_) (fun c1_ => ?_)
  · refine (R_iload zf232_16 rfl rfl).trans ?_
    refine (R_ineg zf232_18 rfl).trans ?_
    refine (R_iload zf232_19 rfl rfl).trans ?_
    refine (R_vcallI zf232_21 zo_232 zvl_12_322 (by rw [zr_233]; rfl) zl_233 (Nat.le_of_ble_eq_true rfl) rfl rfl (Nat.le_of_ble_eq_true rfl) (Nat.le_of_ble_eq_true rfl) (es := [.inr (.inr (.inl 97)), .inl x0, .inl x1, .inl x2, .inl (wI (-x4)), .inl x6, vU]) rfl rfl zk1_97 zo_233).trans ?_
    refine congrArg (cI _) (funext fun a3_ => funext fun h2_ => ?_)
    refine (R_istore (ls' := [.inr (.inr (.inl 97)), .inl x0, .inl x1, .inl x2, .inl x3, .inl x4, .inl x5, .inl x6, .inl a3_]) zf232_24 (Nat.le_of_ble_eq_true rfl) rfl rfl).trans ?_
    refine (R_aload_n zf232_26 rfl zlt_97 rfl).trans ?_
    refine (R_iload_n zf232_27 rfl rfl).trans ?_
    refine (R_vcallI zf232_28 zo_232 zvl_12_326 (by rw [zr_234]; rfl) zl_234 (Nat.le_of_ble_eq_true rfl) rfl rfl (Nat.le_of_ble_eq_true rfl) (Nat.le_of_ble_eq_true rfl) (es := [.inr (.inr (.inl 97)), .inl x1]) rfl rfl zk1_97 zo_234).trans ?_
    refine congrArg (cI _) (funext fun a5_ => funext fun h4_ => ?_)
    refine (R_iload zf232_31 rfl rfl).trans ?_
    refine (R_if_ne (t := 41) zf232_33 rfl rfl).trans ?_
    refine ite_congr rfl (fun c6_ => ?_) (fun c6_ => ?_)
    · refine (R_iload zf232_41 rfl rfl).trans ?_
      refine (R_ineg zf232_43 rfl).trans ?_
      refine (R_iadd zf232_44 rfl).trans ?_
      exact R_ireturn_i zf232_45 zr_232
    · refine (R_iload zf232_36 rfl rfl).trans ?_
      refine (R_goto (t := 44) zf232_38 rfl).trans ?_
      refine (R_iadd zf232_44 rfl).trans ?_
      exact R_ireturn_i zf232_45 zr_232
  · refine (R_iload zf232_11 rfl rfl).trans ?_
    refine (R_goto (t := 19) zf232_13 rfl).trans ?_
    refine (R_iload zf232_19 rfl rfl).trans ?_
    refine (R_vcallI zf232_21 zo_232 zvl_12_322 (by rw [zr_233]; rfl) zl_233 (Nat.le_of_ble_eq_true rfl) rfl rfl (Nat.le_of_ble_eq_true rfl) (Nat.le_of_ble_eq_true rfl) (es := [.inr (.inr (.inl 97)), .inl x0, .inl x1, .inl x2, .inl x4, .inl x6, vU]) rfl rfl zk1_97 zo_233).trans ?_
    refine congrArg (cI _) (funext fun a8_ => funext fun h7_ => ?_)
    refine (R_istore (ls' := [.inr (.inr (.inl 97)), .inl x0, .inl x1, .inl x2, .inl x3, .inl x4, .inl x5, .inl x6, .inl a8_]) zf232_24 (Nat.le_of_ble_eq_true rfl) rfl rfl).trans ?_
    refine (R_aload_n zf232_26 rfl zlt_97 rfl).trans ?_
    refine (R_iload_n zf232_27 rfl rfl).trans ?_
    refine (R_vcallI zf232_28 zo_232 zvl_12_326 (by rw [zr_234]; rfl) zl_234 (Nat.le_of_ble_eq_true rfl) rfl rfl (Nat.le_of_ble_eq_true rfl) (Nat.le_of_ble_eq_true rfl) (es := [.inr (.inr (.inl 97)), .inl x1]) rfl rfl zk1_97 zo_234).trans ?_
    refine congrArg (cI _) (funext fun a10_ => funext fun h9_ => ?_)
    refine (R_iload zf232_31 rfl rfl).trans ?_
    refine (R_if_ne (t := 41) zf232_33 rfl rfl).trans ?_
    refine ite_congr rfl (fun c11_ => ?_) (fun c11_ => ?_)
    · refine (R_iload zf232_41 rfl rfl).trans ?_
      refine (R_ineg zf232_43 rfl).trans ?_
      refine (R_iadd zf232_44 rfl).trans ?_
      exact R_ireturn_i zf232_45 zr_232
    · refine (R_iload zf232_36 rfl rfl).trans ?_
      refine (R_goto (t := 44) zf232_38 rfl).trans ?_
      refine (R_iadd zf232_44 rfl).trans ?_
      exact R_ireturn_i zf232_45 zr_232
-- CannonPostModel.nearestTo(I)I at 0
theorem q236_0 (d : Nat) (x0 : Int) (h : MH) : Run (d + 1) 236 0 [.inr (.inr (.inl 97)), .inl x0, vU, vU] [] h = Run (d + 1) 236 4 [.inr (.inr (.inl 97)), .inl x0, .inl 0, .inl 1] [] h := by
  refine (R_iconst zf236_0 zw_0 rfl).trans ?_
  refine (R_istore_n (ls' := [.inr (.inr (.inl 97)), .inl x0, .inl 0, vU]) zf236_1 (Nat.le_of_ble_eq_true rfl) rfl rfl).trans ?_
  refine (R_iconst zf236_2 zw_1 rfl).trans ?_
  refine (R_istore_n (ls' := [.inr (.inr (.inl 97)), .inl x0, .inl 0, .inl 1]) zf236_3 (Nat.le_of_ble_eq_true rfl) rfl rfl).trans ?_
  rfl
-- CannonPostModel.place(I)I at 0
theorem q234_0 (d : Nat) (x0 : Int) (h : MH) : Run d 234 0 [.inr (.inr (.inl 97)), .inl x0] [] h = (if 0 ≤ (wI (3 * x0)) ∧ (wI (3 * x0)) < 24 then some (some (.inl (h 104 (wI (3 * x0)).toNat)), h) else none) := by
  refine (R_aload_n zf234_0 rfl zlt_97 rfl).trans ?_
  refine (R_getR zf234_1 zo_234 zfl_12_43 zk1_97 zft_12_20 zmr_97_20 rfl).trans ?_
  refine (R_iconst zf234_4 zw_3 rfl).trans ?_
  refine (R_iload_n zf234_5 rfl rfl).trans ?_
  refine (R_imul zf234_6 rfl).trans ?_
  refine (R_iald zf234_7 zk_104 rfl).trans ?_
  refine ite_congr rfl (fun c1_ => ?_) (fun _ => rfl)
  exact R_ireturn_i zf234_8 zr_234
-- CannonPostModel.layAims(I)V at 2
theorem q264_2 (d : Nat) (x0 : Int) (x1 : Int) (z2 : MV) (hz2 : cat z2 = 1) (z3 : MV) (hz3 : cat z3 = 1) (z4 : MV) (hz4 : cat z4 = 1) (h : MH) : Run (d + 1) 264 2 [.inr (.inr (.inl 97)), .inl x0, .inl x1, z2, z3, z4] [] h = (if 64 ≤ x1 then Run (d + 1) 264 28 [.inr (.inr (.inl 97)), .inl x0, .inl 0, z2, z3, z4] [] h else (if 0 ≤ (wI ((wI (64 * x0)) + x1)) ∧ (wI ((wI (64 * x0)) + x1)) < 320 then Run (d + 1) 264 2 [.inr (.inr (.inl 97)), .inl x0, .inl (wI (x1 + 1)), z2, z3, z4] [] (up h 113 (wI ((wI (64 * x0)) + x1)).toNat 0) else none)) := by
  refine (R_iload_n zf264_2 rfl rfl).trans ?_
  refine (R_bipush zf264_3 zb_64 rfl).trans ?_
  refine (R_icmp_ge (t := 26) zf264_5 rfl rfl).trans ?_
  refine ite_congr rfl (fun c1_ => ?_) (fun c1_ => ?_)
  · refine (R_iconst zf264_26 zw_0 rfl).trans ?_
    refine (R_istore_n (ls' := [.inr (.inr (.inl 97)), .inl x0, .inl 0, z2, z3, z4]) zf264_27 (Nat.le_of_ble_eq_true rfl) rfl rfl).trans ?_
    rfl
  · refine (R_aload_n zf264_8 rfl zlt_97 rfl).trans ?_
    refine (R_getR zf264_9 zo_264 zfl_12_74 zk1_97 zft_12_39 zmr_97_39 rfl).trans ?_
    refine (R_bipush zf264_12 zb_64 rfl).trans ?_
    refine (R_iload_n zf264_14 rfl rfl).trans ?_
    refine (R_imul zf264_15 rfl).trans ?_
    refine (R_iload_n zf264_16 rfl rfl).trans ?_
    refine (R_iadd zf264_17 rfl).trans ?_
    refine (R_iconst zf264_18 zw_0 rfl).trans ?_
    refine (R_iast zf264_19 zk_113 rfl).trans ?_
    refine ite_congr rfl (fun c2_ => ?_) (fun _ => rfl)
    refine (R_iinc (ls' := [.inr (.inr (.inl 97)), .inl x0, .inl (wI (x1 + 1)), z2, z3, z4]) zf264_20 rfl rfl rfl).trans ?_
    refine (R_goto (t := 2) zf264_23 rfl).trans ?_
    rfl
-- CannonPostModel.goRoute(IIIIIII)V at 0
theorem q268_0 (d : Nat) (x0 : Int) (x1 : Int) (x2 : Int) (x3 : Int) (x4 : Int) (x5 : Int) (x6 : Int) (h : MH) : Run (d + 1) 268 0 [.inr (.inr (.inl 97)), .inl x0, .inl x1, .inl x2, .inl x3, .inl x4, .inl x5, .inl x6, vU] [] h = (if (h 97 40) = (-1) then Run (d + 1) 268 36 [.inr (.inr (.inl 97)), .inl x0, .inl x1, .inl x2, .inl x3, .inl x4, .inl x5, .inl x6, vU] [] h else (if (h 97 40) < x4 then some (none, h) else (if ¬ x4 = (h 97 40) then Run (d + 1) 268 36 [.inr (.inr (.inl 97)), .inl x0, .inl x1, .inl x2, .inl x3, .inl x4, .inl x5, .inl x6, vU] [] h else (if x5 ≤ (h 97 41) then Run (d + 1) 268 36 [.inr (.inr (.inl 97)), .inl x0, .inl x1, .inl x2, .inl x3, .inl x4, .inl x5, .inl x6, vU] [] h else some (none, h))))) := by
  refine (R_aload_n zf268_0 rfl zlt_97 rfl).trans ?_
  refine (R_getI zf268_1 zo_268 zfl_12_450 zk1_97 zft_12_40 rfl).trans ?_
  refine (R_iconst zf268_4 zw_m1 rfl).trans ?_
  refine (R_icmp_eq (t := 36) zf268_5 rfl rfl).trans ?_
  refine ite_congr rfl (fun c1_ => ?_) (fun c1_ => ?_)
  · rfl
  · refine (R_iload zf268_8 rfl rfl).trans ?_
    refine (R_aload_n zf268_10 rfl zlt_97 rfl).trans ?_
    refine (R_getI zf268_11 zo_268 zfl_12_450 zk1_97 zft_12_40 rfl).trans ?_
    refine (R_icmp_gt (t := 35) zf268_14 rfl rfl).trans ?_
    refine ite_congr rfl (fun c2_ => ?_) (fun c2_ => ?_)
    · exact R_return zf268_35 zr_268
    · refine (R_iload zf268_17 rfl rfl).trans ?_
      refine (R_aload_n zf268_19 rfl zlt_97 rfl).trans ?_
      refine (R_getI zf268_20 zo_268 zfl_12_450 zk1_97 zft_12_40 rfl).trans ?_
      refine (R_icmp_ne (t := 36) zf268_23 rfl rfl).trans ?_
      refine ite_congr rfl (fun c3_ => ?_) (fun c3_ => ?_)
      · rfl
      · refine (R_iload zf268_26 rfl rfl).trans ?_
        refine (R_aload_n zf268_28 rfl zlt_97 rfl).trans ?_
        refine (R_getI zf268_29 zo_268 zfl_12_453 zk1_97 zft_12_41 rfl).trans ?_
        refine (R_icmp_le (t := 36) zf268_32 rfl rfl).trans ?_
        refine ite_congr rfl (fun c4_ => ?_) (fun c4_ => ?_)
        · rfl
        · exact R_return zf268_35 zr_268
-- CannonPostModel.sureOf(III)I at 20
theorem q270_20 (d : Nat) (x0 : Int) (z1 : MV) (hz1 : cat z1 = 1) (z2 : MV) (hz2 : cat z2 = 1) (x3 : Int) (z4 : MV) (hz4 : cat z4 = 1) (x5 : Int) (h : MH) : Run (d + 1) 270 20 [.inr (.inr (.inl 97)), .inl x0, z1, z2, .inr (.inl x3), z4, .inl x5] [] h = (if (h 97 40) ≤ x5 then some (some (.inl (wI x3)), h) else (cI (Run d 223 0 [.inr (.inr (.inl 97)), .inl x0, .inl 1] [] h) fun a3_ h2_ => Run (d + 1) 270 20 [.inr (.inr (.inl 97)), .inl x0, z1, z2, .inr (.inl (wL ((wL (x3 * (wI (a3_ + 1)))).tdiv 10))), vU, .inl (wI (x5 + 1))] [] h2_)) := by
  refine (R_iload zf270_20 rfl rfl).trans ?_
  refine (R_aload_n zf270_22 rfl zlt_97 rfl).trans ?_
  refine (R_getI zf270_23 zo_270 zfl_12_450 zk1_97 zft_12_40 rfl).trans ?_
  refine (R_icmp_ge (t := 53) zf270_26 rfl rfl).trans ?_
  refine ite_congr rfl (fun c1_ => ?_) (fun c1_ => ?_)
  · refine (R_lload zf270_53 rfl rfl).trans ?_
    refine (R_l2i zf270_55 rfl).trans ?_
    exact R_ireturn_i zf270_56 zr_270
  · refine (R_lload zf270_29 rfl rfl).trans ?_
    refine (R_aload_n zf270_31 rfl zlt_97 rfl).trans ?_
    refine (R_iload_n zf270_32 rfl rfl).trans ?_
    refine (R_iconst zf270_33 zw_1 rfl).trans ?_
    refine (R_vcallI zf270_34 zo_270 zvl_12_315 (by rw [zr_223]; rfl) zl_223 (Nat.le_of_ble_eq_true rfl) rfl rfl (Nat.le_of_ble_eq_true rfl) (Nat.le_of_ble_eq_true rfl) (es := [.inr (.inr (.inl 97)), .inl x0, .inl 1]) rfl rfl zk1_97 zo_223).trans ?_
    refine congrArg (cI _) (funext fun a3_ => funext fun h2_ => ?_)
    refine (R_iconst zf270_37 zw_1 rfl).trans ?_
    refine (R_iadd zf270_38 rfl).trans ?_
    refine (R_i2l zf270_39 rfl).trans ?_
    refine (R_lmul zf270_40 rfl).trans ?_
    refine (R_ldc2_w zf270_41 zo_270 zll_12_469 rfl).trans ?_
    refine (R_ldiv zf270_44 (by decide) rfl).trans ?_
    refine (R_lstore (ls' := [.inr (.inr (.inl 97)), .inl x0, z1, z2, .inr (.inl (wL ((wL (x3 * (wI (a3_ + 1)))).tdiv 10))), vU, .inl x5]) zf270_45 (Nat.le_of_ble_eq_true rfl) (st2_z rfl hz2 rfl) rfl).trans ?_
    refine (R_iinc (ls' := [.inr (.inr (.inl 97)), .inl x0, z1, z2, .inr (.inl (wL ((wL (x3 * (wI (a3_ + 1)))).tdiv 10))), vU, .inl (wI (x5 + 1))]) zf270_47 rfl rfl rfl).trans ?_
    refine (R_goto (t := 20) zf270_50 rfl).trans ?_
    rfl
-- CannonPostModel.layAllAims()V at 2
theorem q273_2 (d : Nat) (x0 : Int) (h : MH) : Run (d + 1) 273 2 [.inr (.inr (.inl 97)), .inl x0] [] h = (if (h 97 27) ≤ x0 then some (none, h) else (cV (Run d 264 0 [.inr (.inr (.inl 97)), .inl x0, vU, vU, vU, vU] [] h) fun h2_ => Run (d + 1) 273 2 [.inr (.inr (.inl 97)), .inl (wI (x0 + 1))] [] h2_)) := by
  refine (R_iload_n zf273_2 rfl rfl).trans ?_
  refine (R_aload_n zf273_3 rfl zlt_97 rfl).trans ?_
  refine (R_getI zf273_4 zo_273 zfl_12_297 zk1_97 zft_12_27 rfl).trans ?_
  refine (R_icmp_ge (t := 21) zf273_7 rfl rfl).trans ?_
  refine ite_congr rfl (fun c1_ => ?_) (fun c1_ => ?_)
  · exact R_return zf273_21 zr_273
  · refine (R_aload_n zf273_10 rfl zlt_97 rfl).trans ?_
    refine (R_iload_n zf273_11 rfl rfl).trans ?_
    refine (R_vcallV zf273_12 zo_273 zvl_12_443 zr_264 zl_264 (Nat.le_of_ble_eq_true rfl) rfl rfl (Nat.le_of_ble_eq_true rfl) (Nat.le_of_ble_eq_true rfl) (es := [.inr (.inr (.inl 97)), .inl x0, vU, vU, vU, vU]) rfl rfl zk1_97 zo_264).trans ?_
    refine congrArg (cV _) (funext fun h2_ => ?_)
    refine (R_iinc (ls' := [.inr (.inr (.inl 97)), .inl (wI (x0 + 1))]) zf273_15 rfl rfl rfl).trans ?_
    refine (R_goto (t := 2) zf273_18 rfl).trans ?_
    rfl
-- CannonPostModel.knowers(I)I at 4
theorem q274_4 (d : Nat) (x0 : Int) (x1 : Int) (x2 : Int) (h : MH) : Run (d + 1) 274 4 [.inr (.inr (.inl 97)), .inl x0, .inl x1, .inl x2] [] h = (if (h 97 26) ≤ x2 then some (some (.inl x1), h) else (if 0 ≤ (wI (8 + x2)) ∧ (wI (8 + x2)) < 277 then (cI (Run d 192 0 [.inl (h 110 (wI (8 + x2)).toNat), .inl x0] [] h) fun a4_ h3_ => (if a4_ = 0 then Run (d + 1) 274 4 [.inr (.inr (.inl 97)), .inl x0, .inl (iOr x1 0), .inl (wI (x2 + 1))] [] h3_ else Run (d + 1) 274 4 [.inr (.inr (.inl 97)), .inl x0, .inl (iOr x1 (iShl 1 x2)), .inl (wI (x2 + 1))] [] h3_)) else none)) := by
  refine (R_iload_n zf274_4 rfl rfl).trans ?_
  refine (R_aload_n zf274_5 rfl zlt_97 rfl).trans ?_
  refine (R_getI zf274_6 zo_274 zfl_12_294 zk1_97 zft_12_26 rfl).trans ?_
  refine (R_icmp_ge (t := 44) zf274_9 rfl rfl).trans ?_
  refine ite_congr rfl (fun c1_ => ?_) (fun c1_ => ?_)
  · refine (R_iload_n zf274_44 rfl rfl).trans ?_
    exact R_ireturn_i zf274_45 zr_274
  · refine (R_iload_n zf274_12 rfl rfl).trans ?_
    refine (R_aload_n zf274_13 rfl zlt_97 rfl).trans ?_
    refine (R_getR zf274_14 zo_274 zfl_12_61 zk1_97 zft_12_32 zmr_97_32 rfl).trans ?_
    refine (R_bipush zf274_17 zb_8 rfl).trans ?_
    refine (R_iload_n zf274_19 rfl rfl).trans ?_
    refine (R_iadd zf274_20 rfl).trans ?_
    refine (R_iald zf274_21 zk_110 rfl).trans ?_
    refine ite_congr rfl (fun c2_ => ?_) (fun _ => rfl)
    refine (R_iload_n zf274_22 rfl rfl).trans ?_
    refine (R_callI zf274_23 zo_274 zsl_12_229 (by rw [zr_192]; rfl) zl_192 (Nat.le_of_ble_eq_true rfl) rfl rfl (Nat.le_of_ble_eq_true rfl) (Nat.le_of_ble_eq_true rfl) (es := [.inl (h 110 (wI (8 + x2)).toNat), .inl x0]) rfl rfl).trans ?_
    refine congrArg (cI _) (funext fun a4_ => funext fun h3_ => ?_)
    refine (R_if_eq (t := 35) zf274_26 rfl rfl).trans ?_
    refine ite_congr rfl (fun c5_ => ?_) (fun c5_ => ?_)
    · refine (R_iconst zf274_35 zw_0 rfl).trans ?_
      refine (R_ior zf274_36 rfl).trans ?_
      refine (R_istore_n (ls' := [.inr (.inr (.inl 97)), .inl x0, .inl (iOr x1 0), .inl x2]) zf274_37 (Nat.le_of_ble_eq_true rfl) rfl rfl).trans ?_
      refine (R_iinc (ls' := [.inr (.inr (.inl 97)), .inl x0, .inl (iOr x1 0), .inl (wI (x2 + 1))]) zf274_38 rfl rfl rfl).trans ?_
      refine (R_goto (t := 4) zf274_41 rfl).trans ?_
      rfl
    · refine (R_iconst zf274_29 zw_1 rfl).trans ?_
      refine (R_iload_n zf274_30 rfl rfl).trans ?_
      refine (R_ishl zf274_31 rfl).trans ?_
      refine (R_goto (t := 36) zf274_32 rfl).trans ?_
      refine (R_ior zf274_36 rfl).trans ?_
      refine (R_istore_n (ls' := [.inr (.inr (.inl 97)), .inl x0, .inl (iOr x1 (iShl 1 x2)), .inl x2]) zf274_37 (Nat.le_of_ble_eq_true rfl) rfl rfl).trans ?_
      refine (R_iinc (ls' := [.inr (.inr (.inl 97)), .inl x0, .inl (iOr x1 (iShl 1 x2)), .inl (wI (x2 + 1))]) zf274_38 rfl rfl rfl).trans ?_
      refine (R_goto (t := 4) zf274_41 rfl).trans ?_
      rfl
