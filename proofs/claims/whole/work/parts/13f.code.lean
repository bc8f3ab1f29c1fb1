/-! the methods as equations of Run: CannonPost.allSayable=105, CannonPostModel.atom=208, CannonPostModel.canKnow=276, CannonPostModel.compares=205, CannonPostModel.goesIn=209, CannonPostModel.hasAim=283, CannonPostModel.isAmong=201, CannonPostModel.isDigit=196, CannonPostModel.isWhole=198, CannonPostModel.layAims=264, CannonPostModel.part=204, CannonPostModel.readItems=190, CannonPostModel.spotOf=191, CannonPostModel.sum=206, CannonPostModel.term=207, CannonPostModel.text=216, CannonPostModel.unit=212, CannonPostModel.within=210, Flight.comesTo=79, LawReader.joining=34, LawReader.readAtom=25, LawReader.readCondition=36, LawReader.readSum=24, LawReader.readUnit=37, Lawbook.joined=85, Lawbook.worth=84, League.firstFort=19, League.hasFort=20, League.isWhole=17, League.place=18, LeagueReader.itemOf=10, LeagueReader.readItems=9, Paths.leads=134, Paths.offer=129, Paths.trace=128, State.land=88, State.noteShot=89, State.passHour=100, String.charAt=11, String.checkIndex=14, String.coder=29, String.indexOf=26, String.indexOf=27, String.isLatin1=12, String.length=28, StringLatin1.charAt=13, Tape.number=16, java/util/Arrays.fill=48 -/
-- CannonPost$League.isWhole()Z at 64
theorem q17_64 (d : Nat) (x0 : Int) (z1 : MV) (hz1 : cat z1 = 1) (h : MH) : Run (d + 1) 17 64 [.inr (.inr (.inl 4)), .inl x0, z1] [] h = (if (h 4 4) ≤ x0 then some (some (.inl 1), h) else (cI (Run d 19 0 [.inr (.inr (.inl 4)), .inl x0] [] h) fun a3_ h2_ => (cI (Run d 20 0 [.inr (.inr (.inl 4)), .inl a3_] [] h2_) fun a5_ h4_ => (if ¬ a5_ = 0 then Run (d + 1) 17 64 [.inr (.inr (.inl 4)), .inl (wI (x0 + 1)), z1] [] h4_ else some (some (.inl 0), h4_))))) := by
  refine (R_iload_n zf17_64 rfl rfl).trans ?_
  refine (R_aload_n zf17_65 rfl zlt_4 rfl).trans ?_
  refine (R_getI zf17_66 zo_17 zfl_5_31 zk1_4 zft_5_4 rfl).trans ?_
  refine (R_icmp_ge (t := 92) zf17_69 rfl rfl).trans ?_
  refine ite_congr rfl (fun c1_ => ?_) (fun c1_ => ?_)
  · refine (R_iconst zf17_92 zw_1 rfl).trans ?_
    exact R_ireturn zf17_93 (by rw [zr_17]; rfl)
  · refine (R_aload_n zf17_72 rfl zlt_4 rfl).trans ?_
    refine (R_aload_n zf17_73 rfl zlt_4 rfl).trans ?_
    refine (R_iload_n zf17_74 rfl rfl).trans ?_
    refine (R_vcallI zf17_75 zo_17 zvl_5_38 (by rw [zr_19]; rfl) zl_19 (Nat.le_of_ble_eq_true rfl) rfl rfl (Nat.le_of_ble_eq_true rfl) (Nat.le_of_ble_eq_true rfl) (es := [.inr (.inr (.inl 4)), .inl x0]) rfl rfl zk1_4 zo_19).trans ?_
    refine congrArg (cI _) (funext fun a3_ => funext fun h2_ => ?_)
    refine (R_vcallI zf17_78 zo_17 zvl_5_41 (by rw [zr_20]; rfl) zl_20 (Nat.le_of_ble_eq_true rfl) rfl rfl (Nat.le_of_ble_eq_true rfl) (Nat.le_of_ble_eq_true rfl) (es := [.inr (.inr (.inl 4)), .inl a3_]) rfl rfl zk1_4 zo_20).trans ?_
    refine congrArg (cI _) (funext fun a5_ => funext fun h4_ => ?_)
    refine (R_if_ne (t := 86) zf17_81 rfl rfl).trans ?_
    refine ite_congr rfl (fun c6_ => ?_) (fun c6_ => ?_)
    · refine (R_iinc (ls' := [.inr (.inr (.inl 4)), .inl (wI (x0 + 1)), z1]) zf17_86 rfl rfl rfl).trans ?_
      refine (R_goto (t := 64) zf17_89 rfl).trans ?_
      rfl
    · refine (R_iconst zf17_84 zw_0 rfl).trans ?_
      exact R_ireturn zf17_85 (by rw [zr_17]; rfl)
-- CannonPost$League.isWhole()Z at 30
theorem q17_30 (d : Nat) (x0 : Int) (x1 : Int) (h : MH) : Run (d + 1) 17 30 [.inr (.inr (.inl 4)), .inl x0, .inl x1] [] h = (if x0 ≤ x1 then Run (d + 1) 17 20 [.inr (.inr (.inl 4)), .inl (wI (x0 + 1)), .inl x1] [] h else (cI (Run d 18 0 [.inr (.inr (.inl 4)), .inl x0] [] h) fun a3_ h2_ => (cI (Run d 18 0 [.inr (.inr (.inl 4)), .inl x1] [] h2_) fun a5_ h4_ => (if ¬ a3_ = a5_ then Run (d + 1) 17 30 [.inr (.inr (.inl 4)), .inl x0, .inl (wI (x1 + 1))] [] h4_ else some (some (.inl 0), h4_))))) := by
  refine (R_iload_n zf17_30 rfl rfl).trans ?_
  refine (R_iload_n zf17_31 rfl rfl).trans ?_
  refine (R_icmp_ge (t := 56) zf17_32 rfl rfl).trans ?_
  refine ite_congr rfl (fun c1_ => ?_) (fun c1_ => ?_)
  · refine (R_iinc (ls' := [.inr (.inr (.inl 4)), .inl (wI (x0 + 1)), .inl x1]) zf17_56 rfl rfl rfl).trans ?_
    refine (R_goto (t := 20) zf17_59 rfl).trans ?_
    rfl
  · refine (R_aload_n zf17_35 rfl zlt_4 rfl).trans ?_
    refine (R_iload_n zf17_36 rfl rfl).trans ?_
    refine (R_vcallI zf17_37 zo_17 zvl_5_34 (by rw [zr_18]; rfl) zl_18 (Nat.le_of_ble_eq_true rfl) rfl rfl (Nat.le_of_ble_eq_true rfl) (Nat.le_of_ble_eq_true rfl) (es := [.inr (.inr (.inl 4)), .inl x0]) rfl rfl zk1_4 zo_18).trans ?_
    refine congrArg (cI _) (funext fun a3_ => funext fun h2_ => ?_)
    refine (R_aload_n zf17_40 rfl zlt_4 rfl).trans ?_
    refine (R_iload_n zf17_41 rfl rfl).trans ?_
    refine (R_vcallI zf17_42 zo_17 zvl_5_34 (by rw [zr_18]; rfl) zl_18 (Nat.le_of_ble_eq_true rfl) rfl rfl (Nat.le_of_ble_eq_true rfl) (Nat.le_of_ble_eq_true rfl) (es := [.inr (.inr (.inl 4)), .inl x1]) rfl rfl zk1_4 zo_18).trans ?_
    refine congrArg (cI _) (funext fun a5_ => funext fun h4_ => ?_)
    refine (R_icmp_ne (t := 50) zf17_45 rfl rfl).trans ?_
    refine ite_congr rfl (fun c6_ => ?_) (fun c6_ => ?_)
    · refine (R_iinc (ls' := [.inr (.inr (.inl 4)), .inl x0, .inl (wI (x1 + 1))]) zf17_50 rfl rfl rfl).trans ?_
      refine (R_goto (t := 30) zf17_53 rfl).trans ?_
      rfl
    · refine (R_iconst zf17_48 zw_0 rfl).trans ?_
      exact R_ireturn zf17_49 (by rw [zr_17]; rfl)
-- CannonPost$LawReader.readCondition(IZ)Z at 0
theorem q36_0 (d : Nat) (x0 : Int) (x1 : Int) (h : MH) : Run (d + 1) 36 0 [.inr (.inr (.inl 5)), .inl x0, .inl x1, vU, vU, vU] [] h = (cI (Run d 37 0 [.inr (.inr (.inl 5)), .inl x0, .inl x1, vU, vU] [] h) fun a2_ h1_ => (if ¬ a2_ = 0 then Run (d + 1) 36 16 [.inr (.inr (.inl 5)), .inl x0, .inl x1, .inl 0, .inl 0, vU] [] h1_ else some (some (.inl 0), h1_))) := by
  refine (R_iconst zf36_0 zw_0 rfl).trans ?_
  refine (R_istore_n (ls' := [.inr (.inr (.inl 5)), .inl x0, .inl x1, .inl 0, vU, vU]) zf36_1 (Nat.le_of_ble_eq_true rfl) rfl rfl).trans ?_
  refine (R_aload_n zf36_2 rfl zlt_5 rfl).trans ?_
  refine (R_iload_n zf36_3 rfl rfl).trans ?_
  refine (R_iload_n zf36_4 rfl rfl).trans ?_
  refine (R_vcallI zf36_5 zo_36 zvl_3_58 (by rw [zr_37]; rfl) zl_37 (Nat.le_of_ble_eq_true rfl) rfl rfl (Nat.le_of_ble_eq_true rfl) (Nat.le_of_ble_eq_true rfl) (es := [.inr (.inr (.inl 5)), .inl x0, .inl x1, vU, vU]) rfl rfl zk1_5 zo_37).trans ?_
  refine congrArg (cI _) (funext fun a2_ => funext fun h1_ => ?_)
  refine (R_if_ne (t := 13) zf36_8 rfl rfl).trans ?_
  refine ite_congr rfl (fun c3_ => ?_) (fun c3_ => ?_)
  · refine (R_iconst zf36_13 zw_0 rfl).trans ?_
    refine (R_istore (ls' := [.inr (.inr (.inl 5)), .inl x0, .inl x1, .inl 0, .inl 0, vU]) zf36_14 (Nat.le_of_ble_eq_true rfl) rfl rfl).trans ?_
    rfl
  · refine (R_iconst zf36_11 zw_0 rfl).trans ?_
    exact R_ireturn zf36_12 (by rw [zr_36]; rfl)
-- CannonPost$LawReader.readAtom(I)Z at 0
theorem q25_0 (d : Nat) (x0 : Int) (h : MH) : Run (d + 1) 25 0 [.inr (.inr (.inl 5)), .inl x0, vU, vU, vU] [] h = (cI (Run d 8 0 [.inr (.inr (.inl 1))] [] h) fun a2_ h1_ => (if ¬ a2_ = 91 then (if 0 < a2_ then (cI (Run d 26 0 [.inr (.inr (.inl 125)), .inl (toC a2_)] [] h1_) fun a6_ h5_ => Run (d + 1) 25 89 [.inr (.inr (.inl 5)), .inl x0, .inl a2_, vU, vU] [.inl a6_] h5_) else Run (d + 1) 25 89 [.inr (.inr (.inl 5)), .inl x0, .inl a2_, vU, vU] [.inl (-1)] h1_) else (if x0 < 6 then (cI (Run d 24 0 [.inr (.inr (.inl 5)), .inl (wI (x0 + 1)), vU, vU, vU, vU] [] (up h1_ 1 2 (wI ((h1_ 1 2) + 1)))) fun a9_ h8_ => (if a9_ = 0 then some (some (.inl 0), h8_) else (cI (Run d 8 0 [.inr (.inr (.inl 1))] [] h8_) fun a12_ h11_ => (if a12_ = 93 then some (some (.inl 1), (up h11_ 1 2 (wI ((h11_ 1 2) + 1)))) else some (some (.inl 0), h11_))))) else some (some (.inl 0), h1_)))) := by
  refine (R_aload_n zf25_0 rfl zlt_5 rfl).trans ?_
  refine (R_getR zf25_1 zo_25 zfl_3_17 zk1_5 zft_3_2 zmr_5_2 rfl).trans ?_
  refine (R_vcallI zf25_4 zo_25 zvl_3_32 (by rw [zr_8]; rfl) zl_8 (Nat.le_of_ble_eq_true rfl) rfl rfl (Nat.le_of_ble_eq_true rfl) (Nat.le_of_ble_eq_true rfl) (es := [.inr (.inr (.inl 1))]) rfl rfl zk1_1 zo_8).trans ?_
  refine congrArg (cI _) (funext fun a2_ => funext fun h1_ => ?_)
  refine (R_istore_n (ls' := [.inr (.inr (.inl 5)), .inl x0, .inl a2_, vU, vU]) zf25_7 (Nat.le_of_ble_eq_true rfl) rfl rfl).trans ?_
  refine (R_iload_n zf25_8 rfl rfl).trans ?_
  refine (R_bipush zf25_9 zb_91 rfl).trans ?_
  refine (R_icmp_ne (t := 74) zf25_11 rfl rfl).trans ?_
  refine ite_congr rfl (fun c3_ => ?_) (fun c3_ => ?_)
  · refine (R_iload_n zf25_74 rfl rfl).trans ?_
    refine (R_if_gt (t := 82) zf25_75 rfl rfl).trans ?_
    refine ite_congr rfl (fun c4_ => ?_) (fun c4_ => ?_)
    · refine (R_ldcS zf25_82 zo_25 zcl_3_67 zrl_3_67 rfl).trans ?_
      refine (R_iload_n zf25_84 rfl rfl).trans ?_
      refine (R_i2c zf25_85 rfl).trans ?_
      refine (R_vcallI zf25_86 zo_25 zvl_3_69 (by rw [zr_26]; rfl) zl_26 (Nat.le_of_ble_eq_true rfl) rfl rfl (Nat.le_of_ble_eq_true rfl) (Nat.le_of_ble_eq_true rfl) (es := [.inr (.inr (.inl 125)), .inl (toC a2_)]) rfl rfl zk1_125 zo_26).trans ?_
      refine congrArg (cI _) (funext fun a6_ => funext fun h5_ => ?_)
      rfl
    · refine (R_iconst zf25_78 zw_m1 rfl).trans ?_
      refine (R_goto (t := 89) zf25_79 rfl).trans ?_
      rfl
  · refine (R_iload_n zf25_14 rfl rfl).trans ?_
    refine (R_bipush zf25_15 zb_6 rfl).trans ?_
    refine (R_icmp_lt (t := 22) zf25_17 rfl rfl).trans ?_
    refine ite_congr rfl (fun c7_ => ?_) (fun c7_ => ?_)
    · refine (R_aload_n zf25_22 rfl zlt_5 rfl).trans ?_
      refine (R_getR zf25_23 zo_25 zfl_3_17 zk1_5 zft_3_2 zmr_5_2 rfl).trans ?_
      refine (R_dup zf25_26 rfl rfl).trans ?_
      refine (R_getI zf25_27 zo_25 zfl_3_21 zk1_1 zft_10_2 rfl).trans ?_
      refine (R_iconst zf25_30 zw_1 rfl).trans ?_
      refine (R_iadd zf25_31 rfl).trans ?_
      refine (R_putI zf25_32 zo_25 zfl_3_21 zk1_1 zft_10_2 rfl).trans ?_
      refine (R_aload_n zf25_35 rfl zlt_5 rfl).trans ?_
      refine (R_iload_n zf25_36 rfl rfl).trans ?_
      refine (R_iconst zf25_37 zw_1 rfl).trans ?_
      refine (R_iadd zf25_38 rfl).trans ?_
      refine (R_vcallI zf25_39 zo_25 zvl_3_40 (by rw [zr_24]; rfl) zl_24 (Nat.le_of_ble_eq_true rfl) rfl rfl (Nat.le_of_ble_eq_true rfl) (Nat.le_of_ble_eq_true rfl) (es := [.inr (.inr (.inl 5)), .inl (wI (x0 + 1)), vU, vU, vU, vU]) rfl rfl zk1_5 zo_24).trans ?_
      refine congrArg (cI _) (funext fun a9_ => funext fun h8_ => ?_)
      refine (R_if_eq (t := 57) zf25_42 rfl rfl).trans ?_
      refine ite_congr rfl (fun c10_ => ?_) (fun c10_ => ?_)
      · refine (R_iconst zf25_57 zw_0 rfl).trans ?_
        exact R_ireturn zf25_58 (by rw [zr_25]; rfl)
      · refine (R_aload_n zf25_45 rfl zlt_5 rfl).trans ?_
        refine (R_getR zf25_46 zo_25 zfl_3_17 zk1_5 zft_3_2 zmr_5_2 rfl).trans ?_
        refine (R_vcallI zf25_49 zo_25 zvl_3_32 (by rw [zr_8]; rfl) zl_8 (Nat.le_of_ble_eq_true rfl) rfl rfl (Nat.le_of_ble_eq_true rfl) (Nat.le_of_ble_eq_true rfl) (es := [.inr (.inr (.inl 1))]) rfl rfl zk1_1 zo_8).trans ?_
        refine congrArg (cI _) (funext fun a12_ => funext fun h11_ => ?_)
        refine (R_bipush zf25_52 zb_93 rfl).trans ?_
        refine (R_icmp_eq (t := 59) zf25_54 rfl rfl).trans ?_
        refine ite_congr rfl (fun c13_ => ?_) (fun c13_ => ?_)
        · refine (R_aload_n zf25_59 rfl zlt_5 rfl).trans ?_
          refine (R_getR zf25_60 zo_25 zfl_3_17 zk1_5 zft_3_2 zmr_5_2 rfl).trans ?_
          refine (R_dup zf25_63 rfl rfl).trans ?_
          refine (R_getI zf25_64 zo_25 zfl_3_21 zk1_1 zft_10_2 rfl).trans ?_
          refine (R_iconst zf25_67 zw_1 rfl).trans ?_
          refine (R_iadd zf25_68 rfl).trans ?_
          refine (R_putI zf25_69 zo_25 zfl_3_21 zk1_1 zft_10_2 rfl).trans ?_
          refine (R_iconst zf25_72 zw_1 rfl).trans ?_
          exact R_ireturn zf25_73 (by rw [zr_25]; rfl)
        · refine (R_iconst zf25_57 zw_0 rfl).trans ?_
          exact R_ireturn zf25_58 (by rw [zr_25]; rfl)
    · refine (R_iconst zf25_20 zw_0 rfl).trans ?_
      exact R_ireturn zf25_21 (by rw [zr_25]; rfl)
-- CannonPost$LawReader.readSum(I)Z at 14
theorem q24_14 (d : Nat) (x0 : Int) (x1 : Int) (x2 : Int) (z3 : MV) (hz3 : cat z3 = 1) (z4 : MV) (hz4 : cat z4 = 1) (h : MH) : Run (d + 1) 24 14 [.inr (.inr (.inl 5)), .inl x0, .inl x1, .inl x2, z3, z4] [] h = (if 240 < x2 then (if x1 = (-1) then some (some (.inl 1), h) else (cV (Run d 33 0 [.inr (.inr (.inl 5)), .inl x1, .inl 0] [] h) fun h3_ => some (some (.inl 1), h3_))) else (cI (Run d 8 0 [.inr (.inr (.inl 1))] [] h) fun a5_ h4_ => (cI (Run d 34 0 [.inl a5_] [] h4_) fun a7_ h6_ => (if ¬ a7_ = (-1) then (if a7_ = 2 then (if x1 = (-1) then Run (d + 1) 24 90 [.inr (.inr (.inl 5)), .inl x0, .inl x1, .inl x2, .inl a7_, .inl 1] [] (up h6_ 1 2 (wI ((h6_ 1 2) + 1))) else (cV (Run d 33 0 [.inr (.inr (.inl 5)), .inl x1, .inl 0] [] (up h6_ 1 2 (wI ((h6_ 1 2) + 1)))) fun h11_ => Run (d + 1) 24 90 [.inr (.inr (.inl 5)), .inl x0, .inl x1, .inl x2, .inl a7_, .inl 1] [] h11_)) else (if ¬ a7_ = 3 then Run (d + 1) 24 90 [.inr (.inr (.inl 5)), .inl x0, .inl x1, .inl x2, .inl a7_, .inl 0] [] (up h6_ 1 2 (wI ((h6_ 1 2) + 1))) else (if x1 = (-1) then Run (d + 1) 24 90 [.inr (.inr (.inl 5)), .inl x0, .inl x1, .inl x2, .inl a7_, .inl 1] [] (up h6_ 1 2 (wI ((h6_ 1 2) + 1))) else (cV (Run d 33 0 [.inr (.inr (.inl 5)), .inl x1, .inl 0] [] (up h6_ 1 2 (wI ((h6_ 1 2) + 1)))) fun h14_ => Run (d + 1) 24 90 [.inr (.inr (.inl 5)), .inl x0, .inl x1, .inl x2, .inl a7_, .inl 1] [] h14_)))) else (if x1 = (-1) then some (some (.inl 1), h6_) else (cV (Run d 33 0 [.inr (.inr (.inl 5)), .inl x1, .inl 0] [] h6_) fun h16_ => some (some (.inl 1), h16_))))))) := by
  refine (R_iload_n zf24_14 rfl rfl).trans ?_
  refine (R_sipush zf24_15 zs_240 rfl).trans ?_
  refine (R_icmp_gt (t := 124) zf24_18 rfl rfl).trans ?_
  refine ite_congr rfl (fun c1_ => ?_) (fun c1_ => ?_)
  · refine (R_iload_n zf24_124 rfl rfl).trans ?_
    refine (R_iconst zf24_125 zw_m1 rfl).trans ?_
    refine (R_icmp_eq (t := 135) zf24_126 rfl rfl).trans ?_
    refine ite_congr rfl (fun c2_ => ?_) (fun c2_ => ?_)
    · refine (R_iconst zf24_135 zw_1 rfl).trans ?_
      exact R_ireturn zf24_136 (by rw [zr_24]; rfl)
    · refine (R_aload_n zf24_129 rfl zlt_5 rfl).trans ?_
      refine (R_iload_n zf24_130 rfl rfl).trans ?_
      refine (R_iconst zf24_131 zw_0 rfl).trans ?_
      refine (R_vcallV zf24_132 zo_24 zvl_3_50 zr_33 zl_33 (Nat.le_of_ble_eq_true rfl) rfl rfl (Nat.le_of_ble_eq_true rfl) (Nat.le_of_ble_eq_true rfl) (es := [.inr (.inr (.inl 5)), .inl x1, .inl 0]) rfl rfl zk1_5 zo_33).trans ?_
      refine congrArg (cV _) (funext fun h3_ => ?_)
      refine (R_iconst zf24_135 zw_1 rfl).trans ?_
      exact R_ireturn zf24_136 (by rw [zr_24]; rfl)
  · refine (R_aload_n zf24_21 rfl zlt_5 rfl).trans ?_
    refine (R_getR zf24_22 zo_24 zfl_3_17 zk1_5 zft_3_2 zmr_5_2 rfl).trans ?_
    refine (R_vcallI zf24_25 zo_24 zvl_3_32 (by rw [zr_8]; rfl) zl_8 (Nat.le_of_ble_eq_true rfl) rfl rfl (Nat.le_of_ble_eq_true rfl) (Nat.le_of_ble_eq_true rfl) (es := [.inr (.inr (.inl 1))]) rfl rfl zk1_1 zo_8).trans ?_
    refine congrArg (cI _) (funext fun a5_ => funext fun h4_ => ?_)
    refine (R_callI zf24_28 zo_24 zsl_3_64 (by rw [zr_34]; rfl) zl_34 (Nat.le_of_ble_eq_true rfl) rfl rfl (Nat.le_of_ble_eq_true rfl) (Nat.le_of_ble_eq_true rfl) (es := [.inl a5_]) rfl rfl).trans ?_
    refine congrArg (cI _) (funext fun a7_ => funext fun h6_ => ?_)
    refine (R_istore (ls' := [.inr (.inr (.inl 5)), .inl x0, .inl x1, .inl x2, .inl a7_, z4]) zf24_31 (Nat.le_of_ble_eq_true rfl) rfl rfl).trans ?_
    refine (R_iload zf24_33 rfl rfl).trans ?_
    refine (R_iconst zf24_35 zw_m1 rfl).trans ?_
    refine (R_icmp_ne (t := 42) zf24_36 rfl rfl).trans ?_
    refine ite_congr rfl (fun c8_ => ?_) (fun c8_ => ?_)
    · refine (R_aload_n zf24_42 rfl zlt_5 rfl).trans ?_
      refine (R_getR zf24_43 zo_24 zfl_3_17 zk1_5 zft_3_2 zmr_5_2 rfl).trans ?_
      refine (R_dup zf24_46 rfl rfl).trans ?_
      refine (R_getI zf24_47 zo_24 zfl_3_21 zk1_1 zft_10_2 rfl).trans ?_
      refine (R_iconst zf24_50 zw_1 rfl).trans ?_
      refine (R_iadd zf24_51 rfl).trans ?_
      refine (R_putI zf24_52 zo_24 zfl_3_21 zk1_1 zft_10_2 rfl).trans ?_
      refine (R_iload zf24_55 rfl rfl).trans ?_
      refine (R_iconst zf24_57 zw_2 rfl).trans ?_
      refine (R_icmp_eq (t := 67) zf24_58 rfl rfl).trans ?_
      refine ite_congr rfl (fun c9_ => ?_) (fun c9_ => ?_)
      · refine (R_iconst zf24_67 zw_1 rfl).trans ?_
        refine (R_goto (t := 72) zf24_68 rfl).trans ?_
        refine (R_istore (ls' := [.inr (.inr (.inl 5)), .inl x0, .inl x1, .inl x2, .inl a7_, .inl 1]) zf24_72 (Nat.le_of_ble_eq_true rfl) rfl rfl).trans ?_
        refine (R_iload zf24_74 rfl rfl).trans ?_
        refine ((R_if_eq (t := 90) zf24_76 rfl rfl).trans (if_neg (by decide))).trans ?_
        refine (R_iload_n zf24_79 rfl rfl).trans ?_
        refine (R_iconst zf24_80 zw_m1 rfl).trans ?_
        refine (R_icmp_eq (t := 90) zf24_81 rfl rfl).trans ?_
        refine ite_congr rfl (fun c10_ => ?_) (fun c10_ => ?_)
        · rfl
        · refine (R_aload_n zf24_84 rfl zlt_5 rfl).trans ?_
          refine (R_iload_n zf24_85 rfl rfl).trans ?_
          refine (R_iconst zf24_86 zw_0 rfl).trans ?_
          refine (R_vcallV zf24_87 zo_24 zvl_3_50 zr_33 zl_33 (Nat.le_of_ble_eq_true rfl) rfl rfl (Nat.le_of_ble_eq_true rfl) (Nat.le_of_ble_eq_true rfl) (es := [.inr (.inr (.inl 5)), .inl x1, .inl 0]) rfl rfl zk1_5 zo_33).trans ?_
          refine congrArg (cV _) (funext fun h11_ => ?_)
          rfl
      · refine (R_iload zf24_61 rfl rfl).trans ?_
        refine (R_iconst zf24_63 zw_3 rfl).trans ?_
        refine (R_icmp_ne (t := 71) zf24_64 rfl rfl).trans ?_
        refine ite_congr rfl (fun c12_ => ?_) (fun c12_ => ?_)
        · refine (R_iconst zf24_71 zw_0 rfl).trans ?_
          refine (R_istore (ls' := [.inr (.inr (.inl 5)), .inl x0, .inl x1, .inl x2, .inl a7_, .inl 0]) zf24_72 (Nat.le_of_ble_eq_true rfl) rfl rfl).trans ?_
          refine (R_iload zf24_74 rfl rfl).trans ?_
          refine ((R_if_eq (t := 90) zf24_76 rfl rfl).trans (if_pos (by decide))).trans ?_
          rfl
        · refine (R_iconst zf24_67 zw_1 rfl).trans ?_
          refine (R_goto (t := 72) zf24_68 rfl).trans ?_
          refine (R_istore (ls' := [.inr (.inr (.inl 5)), .inl x0, .inl x1, .inl x2, .inl a7_, .inl 1]) zf24_72 (Nat.le_of_ble_eq_true rfl) rfl rfl).trans ?_
          refine (R_iload zf24_74 rfl rfl).trans ?_
          refine ((R_if_eq (t := 90) zf24_76 rfl rfl).trans (if_neg (by decide))).trans ?_
          refine (R_iload_n zf24_79 rfl rfl).trans ?_
          refine (R_iconst zf24_80 zw_m1 rfl).trans ?_
          refine (R_icmp_eq (t := 90) zf24_81 rfl rfl).trans ?_
          refine ite_congr rfl (fun c13_ => ?_) (fun c13_ => ?_)
          · rfl
          · refine (R_aload_n zf24_84 rfl zlt_5 rfl).trans ?_
            refine (R_iload_n zf24_85 rfl rfl).trans ?_
            refine (R_iconst zf24_86 zw_0 rfl).trans ?_
            refine (R_vcallV zf24_87 zo_24 zvl_3_50 zr_33 zl_33 (Nat.le_of_ble_eq_true rfl) rfl rfl (Nat.le_of_ble_eq_true rfl) (Nat.le_of_ble_eq_true rfl) (es := [.inr (.inr (.inl 5)), .inl x1, .inl 0]) rfl rfl zk1_5 zo_33).trans ?_
            refine congrArg (cV _) (funext fun h14_ => ?_)
            rfl
    · refine (R_goto (t := 124) zf24_39 rfl).trans ?_
      refine (R_iload_n zf24_124 rfl rfl).trans ?_
      refine (R_iconst zf24_125 zw_m1 rfl).trans ?_
      refine (R_icmp_eq (t := 135) zf24_126 rfl rfl).trans ?_
      refine ite_congr rfl (fun c15_ => ?_) (fun c15_ => ?_)
      · refine (R_iconst zf24_135 zw_1 rfl).trans ?_
        exact R_ireturn zf24_136 (by rw [zr_24]; rfl)
      · refine (R_aload_n zf24_129 rfl zlt_5 rfl).trans ?_
        refine (R_iload_n zf24_130 rfl rfl).trans ?_
        refine (R_iconst zf24_131 zw_0 rfl).trans ?_
        refine (R_vcallV zf24_132 zo_24 zvl_3_50 zr_33 zl_33 (Nat.le_of_ble_eq_true rfl) rfl rfl (Nat.le_of_ble_eq_true rfl) (Nat.le_of_ble_eq_true rfl) (es := [.inr (.inr (.inl 5)), .inl x1, .inl 0]) rfl rfl zk1_5 zo_33).trans ?_
        refine congrArg (cV _) (funext fun h16_ => ?_)
        refine (R_iconst zf24_135 zw_1 rfl).trans ?_
        exact R_ireturn zf24_136 (by rw [zr_24]; rfl)
-- CannonPost.allSayable(LCannonPost$State;I)I at 24
theorem q105_24_1 (d : Nat) (z0 : MV) (hz0 : cat z0 = 1) (x1 : Int) (x2 : Int) (x3 : Int) (h : MH) : Run (d + 1) 105 24 [.inr (.inr (.inl 0)), .inr (.inr (.inl 13)), z0, .inl x1, .inl x2, .inl x3] [] h = (if 6 ≤ x3 then some (some (.inl x2), h) else (if (iAnd (iShr x1 x3) 1) = 0 then Run (d + 1) 105 24 [.inr (.inr (.inl 0)), .inr (.inr (.inl 13)), z0, .inl x1, .inl x2, .inl (wI (x3 + 1))] [] h else (cI (Run d 76 0 [.inl x2] [] h) fun a4_ h3_ => (cI (Run d 62 0 [.inr (.inr (.inl 2))] [] h3_) fun a6_ h5_ => (if a6_ ≤ a4_ then Run (d + 1) 105 24 [.inr (.inr (.inl 0)), .inr (.inr (.inl 13)), z0, .inl x1, .inl x2, .inl (wI (x3 + 1))] [] h5_ else Run (d + 1) 105 24 [.inr (.inr (.inl 0)), .inr (.inr (.inl 13)), z0, .inl x1, .inl (iOr x2 (iShl 1 x3)), .inl (wI (x3 + 1))] [] h5_))))) := by
  refine (R_iload zf105_24 rfl rfl).trans ?_
  refine (R_bipush zf105_26 zb_6 rfl).trans ?_
  refine (R_icmp_ge (t := 70) zf105_28 rfl rfl).trans ?_
  refine ite_congr rfl (fun c1_ => ?_) (fun c1_ => ?_)
  · refine (R_iload zf105_70 rfl rfl).trans ?_
    exact R_ireturn_i zf105_72 zr_105
  · refine (R_iload_n zf105_31 rfl rfl).trans ?_
    refine (R_iload zf105_32 rfl rfl).trans ?_
    refine (R_ishr zf105_34 rfl).trans ?_
    refine (R_iconst zf105_35 zw_1 rfl).trans ?_
    refine (R_iand zf105_36 rfl).trans ?_
    refine (R_if_eq (t := 64) zf105_37 rfl rfl).trans ?_
    refine ite_congr rfl (fun c2_ => ?_) (fun c2_ => ?_)
    · refine (R_iinc (ls' := [.inr (.inr (.inl 0)), .inr (.inr (.inl 13)), z0, .inl x1, .inl x2, .inl (wI (x3 + 1))]) zf105_64 rfl rfl rfl).trans ?_
      refine (R_goto (t := 24) zf105_67 rfl).trans ?_
      rfl
    · refine (R_iload zf105_40 rfl rfl).trans ?_
      refine (R_callI zf105_42 zo_105 zsl_11_271 (by rw [zr_76]; rfl) zl_76 (Nat.le_of_ble_eq_true rfl) rfl rfl (Nat.le_of_ble_eq_true rfl) (Nat.le_of_ble_eq_true rfl) (es := [.inl x2]) rfl rfl).trans ?_
      refine congrArg (cI _) (funext fun a4_ => funext fun h3_ => ?_)
      refine (R_aload_n zf105_45 rfl zlt_0 rfl).trans ?_
      refine (R_getR zf105_46 zo_105 zfl_11_19 zk1_0 zft_11_1 zmr_0_1 rfl).trans ?_
      refine (R_vcallI zf105_49 zo_105 zvl_11_165 (by rw [zr_62]; rfl) zl_62 (Nat.le_of_ble_eq_true rfl) rfl rfl (Nat.le_of_ble_eq_true rfl) (Nat.le_of_ble_eq_true rfl) (es := [.inr (.inr (.inl 2))]) rfl rfl zk1_2 zo_62).trans ?_
      refine congrArg (cI _) (funext fun a6_ => funext fun h5_ => ?_)
      refine (R_icmp_ge (t := 64) zf105_52 rfl rfl).trans ?_
      refine ite_congr rfl (fun c7_ => ?_) (fun c7_ => ?_)
      · refine (R_iinc (ls' := [.inr (.inr (.inl 0)), .inr (.inr (.inl 13)), z0, .inl x1, .inl x2, .inl (wI (x3 + 1))]) zf105_64 rfl rfl rfl).trans ?_
        refine (R_goto (t := 24) zf105_67 rfl).trans ?_
        rfl
      · refine (R_iload zf105_55 rfl rfl).trans ?_
        refine (R_iconst zf105_57 zw_1 rfl).trans ?_
        refine (R_iload zf105_58 rfl rfl).trans ?_
        refine (R_ishl zf105_60 rfl).trans ?_
        refine (R_ior zf105_61 rfl).trans ?_
        refine (R_istore (ls' := [.inr (.inr (.inl 0)), .inr (.inr (.inl 13)), z0, .inl x1, .inl (iOr x2 (iShl 1 x3)), .inl x3]) zf105_62 (Nat.le_of_ble_eq_true rfl) rfl rfl).trans ?_
        refine (R_iinc (ls' := [.inr (.inr (.inl 0)), .inr (.inr (.inl 13)), z0, .inl x1, .inl (iOr x2 (iShl 1 x3)), .inl (wI (x3 + 1))]) zf105_64 rfl rfl rfl).trans ?_
        refine (R_goto (t := 24) zf105_67 rfl).trans ?_
        rfl
-- CannonPost$Flight.comesTo(LCannonPost$State;IIII)I at 0
theorem q79_0_1 (d : Nat) (x0 : Int) (x1 : Int) (x2 : Int) (x3 : Int) (h : MH) : Run (d + 1) 79 0 [.inr (.inr (.inl 8)), .inr (.inr (.inl 13)), .inl x0, .inl x1, .inl x2, .inl x3, vU, vU] [] h = (cI (Run d 80 0 [.inl (h 93 1), .inl (h 93 2), .inl x3] [] h) fun a2_ h1_ => (cI (Run d 81 0 [.inr (.inr (.inl 8)), .inl x0, .inl x1, .inl x2, .inl a2_, .inl (h1_ 93 3), vU, vU, vU] [] h1_) fun a4_ h3_ => (cI (Run d 18 0 [.inr (.inr (.inl 2)), .inl x1] [] h3_) fun a6_ h5_ => (cI (Run d 86 0 [.inl a6_, .inl a4_, .inl x3] [] h5_) fun a8_ h7_ => some (some (.inl a8_), h7_))))) := by
  refine (R_aload_n zf79_0 rfl zlt_13 rfl).trans ?_
  refine (R_getR zf79_1 zo_79 zfl_0_66 zk1_13 zft_9_0 zmr_13_0 rfl).trans ?_
  refine (R_iconst zf79_4 zw_1 rfl).trans ?_
  refine (R_ialdc zf79_5 zk_93 (by decide) rfl rfl).trans ?_
  refine (R_aload_n zf79_6 rfl zlt_13 rfl).trans ?_
  refine (R_getR zf79_7 zo_79 zfl_0_66 zk1_13 zft_9_0 zmr_13_0 rfl).trans ?_
  refine (R_iconst zf79_10 zw_2 rfl).trans ?_
  refine (R_ialdc zf79_11 zk_93 (by decide) rfl rfl).trans ?_
  refine (R_iload zf79_12 rfl rfl).trans ?_
  refine (R_callI zf79_14 zo_79 zsl_0_71 (by rw [zr_80]; rfl) zl_80 (Nat.le_of_ble_eq_true rfl) rfl rfl (Nat.le_of_ble_eq_true rfl) (Nat.le_of_ble_eq_true rfl) (es := [.inl (h 93 1), .inl (h 93 2), .inl x3]) rfl rfl).trans ?_
  refine congrArg (cI _) (funext fun a2_ => funext fun h1_ => ?_)
  refine (R_istore (ls' := [.inr (.inr (.inl 8)), .inr (.inr (.inl 13)), .inl x0, .inl x1, .inl x2, .inl x3, .inl a2_, vU]) zf79_17 (Nat.le_of_ble_eq_true rfl) rfl rfl).trans ?_
  refine (R_aload_n zf79_19 rfl zlt_8 rfl).trans ?_
  refine (R_iload_n zf79_20 rfl rfl).trans ?_
  refine (R_iload_n zf79_21 rfl rfl).trans ?_
  refine (R_iload zf79_22 rfl rfl).trans ?_
  refine (R_iload zf79_24 rfl rfl).trans ?_
  refine (R_aload_n zf79_26 rfl zlt_13 rfl).trans ?_
  refine (R_getR zf79_27 zo_79 zfl_0_66 zk1_13 zft_9_0 zmr_13_0 rfl).trans ?_
  refine (R_iconst zf79_30 zw_3 rfl).trans ?_
  refine (R_ialdc zf79_31 zk_93 (by decide) rfl rfl).trans ?_
  refine (R_vcallI zf79_32 zo_79 zvl_0_75 (by rw [zr_81]; rfl) zl_81 (Nat.le_of_ble_eq_true rfl) rfl rfl (Nat.le_of_ble_eq_true rfl) (Nat.le_of_ble_eq_true rfl) (es := [.inr (.inr (.inl 8)), .inl x0, .inl x1, .inl x2, .inl a2_, .inl (h1_ 93 3), vU, vU, vU]) rfl rfl zk1_8 zo_81).trans ?_
  refine congrArg (cI _) (funext fun a4_ => funext fun h3_ => ?_)
  refine (R_istore (ls' := [.inr (.inr (.inl 8)), .inr (.inr (.inl 13)), .inl x0, .inl x1, .inl x2, .inl x3, .inl a2_, .inl a4_]) zf79_35 (Nat.le_of_ble_eq_true rfl) rfl rfl).trans ?_
  refine (R_aload_n zf79_37 rfl zlt_8 rfl).trans ?_
  refine (R_getR zf79_38 zo_79 zfl_0_20 zk1_8 zft_0_0 zmr_8_0 rfl).trans ?_
  refine (R_iload_n zf79_41 rfl rfl).trans ?_
  refine (R_vcallI zf79_42 zo_79 zvl_0_79 (by rw [zr_18]; rfl) zl_18 (Nat.le_of_ble_eq_true rfl) rfl rfl (Nat.le_of_ble_eq_true rfl) (Nat.le_of_ble_eq_true rfl) (es := [.inr (.inr (.inl 2)), .inl x1]) rfl rfl zk1_2 zo_18).trans ?_
  refine congrArg (cI _) (funext fun a6_ => funext fun h5_ => ?_)
  refine (R_iload zf79_45 rfl rfl).trans ?_
  refine (R_iload zf79_47 rfl rfl).trans ?_
  refine (R_callI zf79_49 zo_79 zsl_0_82 (by rw [zr_86]; rfl) zl_86 (Nat.le_of_ble_eq_true rfl) rfl rfl (Nat.le_of_ble_eq_true rfl) (Nat.le_of_ble_eq_true rfl) (es := [.inl a6_, .inl a4_, .inl x3]) rfl rfl).trans ?_
  refine congrArg (cI _) (funext fun a8_ => funext fun h7_ => ?_)
  exact R_ireturn_i zf79_52 zr_79
-- CannonPost$State.land(III)V at 0
theorem q88_0_1 (d : Nat) (x0 : Int) (x1 : Int) (x2 : Int) (h : MH) : Run d 88 0 [.inr (.inr (.inl 13)), .inl x0, .inl x1, .inl x2] [] h = (if 0 ≤ (wI (21 + x1)) ∧ (wI (21 + x1)) < 37 then (if (h 93 (wI (21 + x1)).toNat) ≤ 0 then (if 0 ≤ (wI (11 + x0)) ∧ (wI (11 + x0)) < 37 then (if 0 ≤ (wI (11 + x0)) ∧ (wI (11 + x0)) < 37 then Run d 88 53 [.inr (.inr (.inl 13)), .inl x0, .inl x1, .inl x2] [] (up h 93 (wI (11 + x0)).toNat (mn 99 (wI ((h 93 (wI (11 + x0)).toNat) + 1)))) else none) else none) else (if 0 ≤ (wI (21 + x1)) ∧ (wI (21 + x1)) < 37 then (if 0 ≤ (wI (21 + x1)) ∧ (wI (21 + x1)) < 37 then Run d 88 53 [.inr (.inr (.inl 13)), .inl x0, .inl x1, .inl x2] [] (up h 93 (wI (21 + x1)).toNat (wI ((h 93 (wI (21 + x1)).toNat) - 1))) else none) else none)) else none) := by
  refine (R_aload_n zf88_0 rfl zlt_13 rfl).trans ?_
  refine (R_getR zf88_1 zo_88 zfl_9_15 zk1_13 zft_9_0 zmr_13_0 rfl).trans ?_
  refine (R_bipush zf88_4 zb_21 rfl).trans ?_
  refine (R_iload_n zf88_6 rfl rfl).trans ?_
  refine (R_iadd zf88_7 rfl).trans ?_
  refine (R_iald zf88_8 zk_93 rfl).trans ?_
  refine ite_congr rfl (fun c1_ => ?_) (fun _ => rfl)
  refine (R_if_le (t := 28) zf88_9 rfl rfl).trans ?_
  refine ite_congr rfl (fun c2_ => ?_) (fun c2_ => ?_)
  · refine (R_aload_n zf88_28 rfl zlt_13 rfl).trans ?_
    refine (R_getR zf88_29 zo_88 zfl_9_15 zk1_13 zft_9_0 zmr_13_0 rfl).trans ?_
    refine (R_bipush zf88_32 zb_11 rfl).trans ?_
    refine (R_iload_n zf88_34 rfl rfl).trans ?_
    refine (R_iadd zf88_35 rfl).trans ?_
    refine (R_bipush zf88_36 zb_99 rfl).trans ?_
    refine (R_aload_n zf88_38 rfl zlt_13 rfl).trans ?_
    refine (R_getR zf88_39 zo_88 zfl_9_15 zk1_13 zft_9_0 zmr_13_0 rfl).trans ?_
    refine (R_bipush zf88_42 zb_11 rfl).trans ?_
    refine (R_iload_n zf88_44 rfl rfl).trans ?_
    refine (R_iadd zf88_45 rfl).trans ?_
    refine (R_iald zf88_46 zk_93 rfl).trans ?_
    refine ite_congr rfl (fun c3_ => ?_) (fun _ => rfl)
    refine (R_iconst zf88_47 zw_1 rfl).trans ?_
    refine (R_iadd zf88_48 rfl).trans ?_
    refine (R_mmin zf88_49 zo_88 zsl_9_64 zml_9_64 zna_9_64 (Nat.le_of_ble_eq_true rfl) rfl).trans ?_
    refine (R_iast zf88_52 zk_93 rfl).trans ?_
    refine ite_congr rfl (fun c4_ => ?_) (fun _ => rfl)
    rfl
  · refine (R_aload_n zf88_12 rfl zlt_13 rfl).trans ?_
    refine (R_getR zf88_13 zo_88 zfl_9_15 zk1_13 zft_9_0 zmr_13_0 rfl).trans ?_
    refine (R_bipush zf88_16 zb_21 rfl).trans ?_
    refine (R_iload_n zf88_18 rfl rfl).trans ?_
    refine (R_iadd zf88_19 rfl).trans ?_
    refine (R_dup2 zf88_20 rfl rfl rfl).trans ?_
    refine (R_iald zf88_21 zk_93 rfl).trans ?_
    refine ite_congr rfl (fun c5_ => ?_) (fun _ => rfl)
    refine (R_iconst zf88_22 zw_1 rfl).trans ?_
    refine (R_isub zf88_23 rfl).trans ?_
    refine (R_iast zf88_24 zk_93 rfl).trans ?_
    refine ite_congr rfl (fun c6_ => ?_) (fun _ => rfl)
    refine (R_goto (t := 53) zf88_25 rfl).trans ?_
    rfl
-- CannonPost$State.noteShot(IIII)V at 0
theorem q89_0_1 (d : Nat) (x0 : Int) (x1 : Int) (x2 : Int) (x3 : Int) (h : MH) : Run d 89 0 [.inr (.inr (.inl 13)), .inl x0, .inl x1, .inl x2, .inl x3, vU] [] h = (if 0 ≤ (wI (((h 93 5).tmod 100) * 4)) ∧ (wI (((h 93 5).tmod 100) * 4)) < 400 then (if 0 ≤ (wI ((wI (((h 93 5).tmod 100) * 4)) + 1)) ∧ (wI ((wI (((h 93 5).tmod 100) * 4)) + 1)) < 400 then (if 0 ≤ (wI ((wI (((h 93 5).tmod 100) * 4)) + 2)) ∧ (wI ((wI (((h 93 5).tmod 100) * 4)) + 2)) < 400 then (if 0 ≤ (wI ((wI (((h 93 5).tmod 100) * 4)) + 3)) ∧ (wI ((wI (((h 93 5).tmod 100) * 4)) + 3)) < 400 then some (none, (up (up (up (up (up h 94 (wI (((h 93 5).tmod 100) * 4)).toNat x0) 94 (wI ((wI (((h 93 5).tmod 100) * 4)) + 1)).toNat x1) 94 (wI ((wI (((h 93 5).tmod 100) * 4)) + 2)).toNat x2) 94 (wI ((wI (((h 93 5).tmod 100) * 4)) + 3)).toNat x3) 93 5 (wI (((up (up (up (up h 94 (wI (((h 93 5).tmod 100) * 4)).toNat x0) 94 (wI ((wI (((h 93 5).tmod 100) * 4)) + 1)).toNat x1) 94 (wI ((wI (((h 93 5).tmod 100) * 4)) + 2)).toNat x2) 94 (wI ((wI (((h 93 5).tmod 100) * 4)) + 3)).toNat x3) 93 5) + 1)))) else none) else none) else none) else none) := by
  refine (R_aload_n zf89_0 rfl zlt_13 rfl).trans ?_
  refine (R_getR zf89_1 zo_89 zfl_9_15 zk1_13 zft_9_0 zmr_13_0 rfl).trans ?_
  refine (R_iconst zf89_4 zw_5 rfl).trans ?_
  refine (R_ialdc zf89_5 zk_93 (by decide) rfl rfl).trans ?_
  refine (R_bipush zf89_6 zb_100 rfl).trans ?_
  refine (R_irem zf89_8 (by decide) rfl).trans ?_
  refine (R_iconst zf89_9 zw_4 rfl).trans ?_
  refine (R_imul zf89_10 rfl).trans ?_
  refine (R_istore (ls' := [.inr (.inr (.inl 13)), .inl x0, .inl x1, .inl x2, .inl x3, .inl (wI (((h 93 5).tmod 100) * 4))]) zf89_11 (Nat.le_of_ble_eq_true rfl) rfl rfl).trans ?_
  refine (R_aload_n zf89_13 rfl zlt_13 rfl).trans ?_
  refine (R_getR zf89_14 zo_89 zfl_9_19 zk1_13 zft_9_1 zmr_13_1 rfl).trans ?_
  refine (R_iload zf89_17 rfl rfl).trans ?_
  refine (R_iload_n zf89_19 rfl rfl).trans ?_
  refine (R_iast zf89_20 zk_94 rfl).trans ?_
  refine ite_congr rfl (fun c1_ => ?_) (fun _ => rfl)
  refine (R_aload_n zf89_21 rfl zlt_13 rfl).trans ?_
  refine (R_getR zf89_22 zo_89 zfl_9_19 zk1_13 zft_9_1 zmr_13_1 rfl).trans ?_
  refine (R_iload zf89_25 rfl rfl).trans ?_
  refine (R_iconst zf89_27 zw_1 rfl).trans ?_
  refine (R_iadd zf89_28 rfl).trans ?_
  refine (R_iload_n zf89_29 rfl rfl).trans ?_
  refine (R_iast zf89_30 zk_94 rfl).trans ?_
  refine ite_congr rfl (fun c2_ => ?_) (fun _ => rfl)
  refine (R_aload_n zf89_31 rfl zlt_13 rfl).trans ?_
  refine (R_getR zf89_32 zo_89 zfl_9_19 zk1_13 zft_9_1 zmr_13_1 rfl).trans ?_
  refine (R_iload zf89_35 rfl rfl).trans ?_
  refine (R_iconst zf89_37 zw_2 rfl).trans ?_
  refine (R_iadd zf89_38 rfl).trans ?_
  refine (R_iload_n zf89_39 rfl rfl).trans ?_
  refine (R_iast zf89_40 zk_94 rfl).trans ?_
  refine ite_congr rfl (fun c3_ => ?_) (fun _ => rfl)
  refine (R_aload_n zf89_41 rfl zlt_13 rfl).trans ?_
  refine (R_getR zf89_42 zo_89 zfl_9_19 zk1_13 zft_9_1 zmr_13_1 rfl).trans ?_
  refine (R_iload zf89_45 rfl rfl).trans ?_
  refine (R_iconst zf89_47 zw_3 rfl).trans ?_
  refine (R_iadd zf89_48 rfl).trans ?_
  refine (R_iload zf89_49 rfl rfl).trans ?_
  refine (R_iast zf89_51 zk_94 rfl).trans ?_
  refine ite_congr rfl (fun c4_ => ?_) (fun _ => rfl)
  refine (R_aload_n zf89_52 rfl zlt_13 rfl).trans ?_
  refine (R_getR zf89_53 zo_89 zfl_9_15 zk1_13 zft_9_0 zmr_13_0 rfl).trans ?_
  refine (R_iconst zf89_56 zw_5 rfl).trans ?_
  refine (R_dup2 zf89_57 rfl rfl rfl).trans ?_
  refine (R_ialdc zf89_58 zk_93 (by decide) rfl rfl).trans ?_
  refine (R_iconst zf89_59 zw_1 rfl).trans ?_
  refine (R_iadd zf89_60 rfl).trans ?_
  refine (R_iastc zf89_61 zk_93 (by decide) rfl rfl).trans ?_
  exact R_return zf89_62 zr_89
-- CannonPost$State.passHour(I)V at 2
theorem q100_2_1 (d : Nat) (x0 : Int) (x1 : Int) (h : MH) : Run d 100 2 [.inr (.inr (.inl 13)), .inl x0, .inl x1] [] h = (if 5 ≤ x1 then (if ¬ (((up h 93 4 (wI ((h 93 4) + 1))) 93 4).tmod 4) = 0 then some (none, (up h 93 4 (wI ((h 93 4) + 1)))) else Run d 100 60 [.inr (.inr (.inl 13)), .inl x0, .inl 0] [] (up h 93 4 (wI ((h 93 4) + 1)))) else (if 0 ≤ (wI (16 + x1)) ∧ (wI (16 + x1)) < 37 then (if 0 ≤ (wI (16 + x1)) ∧ (wI (16 + x1)) < 37 then Run d 100 2 [.inr (.inr (.inl 13)), .inl x0, .inl (wI (x1 + 1))] [] (up h 93 (wI (16 + x1)).toNat (mx 0 (wI ((h 93 (wI (16 + x1)).toNat) - 1)))) else none) else none)) := by
  refine (R_iload_n zf100_2 rfl rfl).trans ?_
  refine (R_iconst zf100_3 zw_5 rfl).trans ?_
  refine (R_icmp_ge (t := 37) zf100_4 rfl rfl).trans ?_
  refine ite_congr rfl (fun c1_ => ?_) (fun c1_ => ?_)
  · refine (R_aload_n zf100_37 rfl zlt_13 rfl).trans ?_
    refine (R_getR zf100_38 zo_100 zfl_9_15 zk1_13 zft_9_0 zmr_13_0 rfl).trans ?_
    refine (R_iconst zf100_41 zw_4 rfl).trans ?_
    refine (R_dup2 zf100_42 rfl rfl rfl).trans ?_
    refine (R_ialdc zf100_43 zk_93 (by decide) rfl rfl).trans ?_
    refine (R_iconst zf100_44 zw_1 rfl).trans ?_
    refine (R_iadd zf100_45 rfl).trans ?_
    refine (R_iastc zf100_46 zk_93 (by decide) rfl rfl).trans ?_
    refine (R_aload_n zf100_47 rfl zlt_13 rfl).trans ?_
    refine (R_getR zf100_48 zo_100 zfl_9_15 zk1_13 zft_9_0 zmr_13_0 rfl).trans ?_
    refine (R_iconst zf100_51 zw_4 rfl).trans ?_
    refine (R_ialdc zf100_52 zk_93 (by decide) rfl rfl).trans ?_
    refine (R_iconst zf100_53 zw_4 rfl).trans ?_
    refine (R_irem zf100_54 (by decide) rfl).trans ?_
    refine (R_if_ne (t := 96) zf100_55 rfl rfl).trans ?_
    refine ite_congr rfl (fun c2_ => ?_) (fun c2_ => ?_)
    · exact R_return zf100_96 zr_100
    · refine (R_iconst zf100_58 zw_0 rfl).trans ?_
      refine (R_istore_n (ls' := [.inr (.inr (.inl 13)), .inl x0, .inl 0]) zf100_59 (Nat.le_of_ble_eq_true rfl) rfl rfl).trans ?_
      rfl
  · refine (R_aload_n zf100_7 rfl zlt_13 rfl).trans ?_
    refine (R_getR zf100_8 zo_100 zfl_9_15 zk1_13 zft_9_0 zmr_13_0 rfl).trans ?_
    refine (R_bipush zf100_11 zb_16 rfl).trans ?_
    refine (R_iload_n zf100_13 rfl rfl).trans ?_
    refine (R_iadd zf100_14 rfl).trans ?_
    refine (R_iconst zf100_15 zw_0 rfl).trans ?_
    refine (R_aload_n zf100_16 rfl zlt_13 rfl).trans ?_
    refine (R_getR zf100_17 zo_100 zfl_9_15 zk1_13 zft_9_0 zmr_13_0 rfl).trans ?_
    refine (R_bipush zf100_20 zb_16 rfl).trans ?_
    refine (R_iload_n zf100_22 rfl rfl).trans ?_
    refine (R_iadd zf100_23 rfl).trans ?_
    refine (R_iald zf100_24 zk_93 rfl).trans ?_
    refine ite_congr rfl (fun c3_ => ?_) (fun _ => rfl)
    refine (R_iconst zf100_25 zw_1 rfl).trans ?_
    refine (R_isub zf100_26 rfl).trans ?_
    refine (R_mmax zf100_27 zo_100 zsl_9_58 zml_9_58 zna_9_58 (Nat.le_of_ble_eq_true rfl) rfl).trans ?_
    refine (R_iast zf100_30 zk_93 rfl).trans ?_
    refine ite_congr rfl (fun c4_ => ?_) (fun _ => rfl)
    refine (R_iinc (ls' := [.inr (.inr (.inl 13)), .inl x0, .inl (wI (x1 + 1))]) zf100_31 rfl rfl rfl).trans ?_
    refine (R_goto (t := 2) zf100_34 rfl).trans ?_
    rfl
-- CannonPost$Lawbook.worth()I at 218
theorem q84_218 (d : Nat) (r0 : Nat) (hr0 : r0 < 4) (x1 : Int) (x2 : Int) (x3 : Int) (z4 : MV) (hz4 : cat z4 = 1) (h : MH) : Run (d + 1) 84 218 [.inr (.inr (.inl 6)), .inr (.inr (.inl (25 + r0))), .inl x1, .inl x2, .inl x3, z4] [] h = (if x1 ≤ 1 then Run (d + 1) 84 34 [.inr (.inr (.inl 6)), .inr (.inr (.inl (25 + r0))), .inl x1, .inl (wI (x2 + 1)), .inl x3, z4] [] h else (if 0 ≤ (wI ((wI (x1 + (-1))) - 1)) ∧ (wI ((wI (x1 + (-1))) - 1)) < 64 then (if 0 ≤ (wI (x1 + (-1))) ∧ (wI (x1 + (-1))) < 64 then (cI (Run d 85 0 [.inl x3, .inl (h 30 (wI ((wI (x1 + (-1))) - 1)).toNat), .inl (h 30 (wI (x1 + (-1))).toNat), vU, vU] [] h) fun a5_ h4_ => (if 0 ≤ (wI ((wI (x1 + (-1))) - 1)) ∧ (wI ((wI (x1 + (-1))) - 1)) < 64 then Run (d + 1) 84 34 [.inr (.inr (.inl 6)), .inr (.inr (.inl (25 + r0))), .inl (wI (x1 + (-1))), .inl (wI (x2 + 1)), .inl x3, z4] [] (up h4_ 30 (wI ((wI (x1 + (-1))) - 1)).toNat a5_) else none)) else none) else none)) := by
  refine (R_iload_n zf84_218 rfl rfl).trans ?_
  refine (R_iconst zf84_219 zw_1 rfl).trans ?_
  refine (R_icmp_le (t := 253) zf84_220 rfl rfl).trans ?_
  refine ite_congr rfl (fun c1_ => ?_) (fun c1_ => ?_)
  · refine (R_iinc (ls' := [.inr (.inr (.inl 6)), .inr (.inr (.inl (25 + r0))), .inl x1, .inl (wI (x2 + 1)), .inl x3, z4]) zf84_253 rfl rfl rfl).trans ?_
    refine (R_goto (t := 34) zf84_256 rfl).trans ?_
    rfl
  · refine (R_iinc (ls' := [.inr (.inr (.inl 6)), .inr (.inr (.inl (25 + r0))), .inl (wI (x1 + (-1))), .inl x2, .inl x3, z4]) zf84_223 rfl rfl rfl).trans ?_
    refine (R_aload_n zf84_226 rfl zlt_6 rfl).trans ?_
    refine (R_getR zf84_227 zo_84 zfl_4_29 zk1_6 zft_4_5 zmr_6_5 rfl).trans ?_
    refine (R_iload_n zf84_230 rfl rfl).trans ?_
    refine (R_iconst zf84_231 zw_1 rfl).trans ?_
    refine (R_isub zf84_232 rfl).trans ?_
    refine (R_iload zf84_233 rfl rfl).trans ?_
    refine (R_aload_n zf84_235 rfl zlt_6 rfl).trans ?_
    refine (R_getR zf84_236 zo_84 zfl_4_29 zk1_6 zft_4_5 zmr_6_5 rfl).trans ?_
    refine (R_iload_n zf84_239 rfl rfl).trans ?_
    refine (R_iconst zf84_240 zw_1 rfl).trans ?_
    refine (R_isub zf84_241 rfl).trans ?_
    refine (R_iald zf84_242 zk_30 rfl).trans ?_
    refine ite_congr rfl (fun c2_ => ?_) (fun _ => rfl)
    refine (R_aload_n zf84_243 rfl zlt_6 rfl).trans ?_
    refine (R_getR zf84_244 zo_84 zfl_4_29 zk1_6 zft_4_5 zmr_6_5 rfl).trans ?_
    refine (R_iload_n zf84_247 rfl rfl).trans ?_
    refine (R_iald zf84_248 zk_30 rfl).trans ?_
    refine ite_congr rfl (fun c3_ => ?_) (fun _ => rfl)
    refine (R_callI zf84_249 zo_84 zsl_4_51 (by rw [zr_85]; rfl) zl_85 (Nat.le_of_ble_eq_true rfl) rfl rfl (Nat.le_of_ble_eq_true rfl) (Nat.le_of_ble_eq_true rfl) (es := [.inl x3, .inl (h 30 (wI ((wI (x1 + (-1))) - 1)).toNat), .inl (h 30 (wI (x1 + (-1))).toNat), vU, vU]) rfl rfl).trans ?_
    refine congrArg (cI _) (funext fun a5_ => funext fun h4_ => ?_)
    refine (R_iast zf84_252 zk_30 rfl).trans ?_
    refine ite_congr rfl (fun c6_ => ?_) (fun _ => rfl)
    refine (R_iinc (ls' := [.inr (.inr (.inl 6)), .inr (.inr (.inl (25 + r0))), .inl (wI (x1 + (-1))), .inl (wI (x2 + 1)), .inl x3, z4]) zf84_253 rfl rfl rfl).trans ?_
    refine (R_goto (t := 34) zf84_256 rfl).trans ?_
    rfl
-- CannonPost$Paths.trace(LCannonPost$State;II)V at 128
theorem q128_128 (d : Nat) (x0 : Int) (z1 : MV) (hz1 : cat z1 = 1) (x2 : Int) (x3 : Int) (x4 : Int) (z5 : MV) (hz5 : cat z5 = 1) (y6 : Int) (h : MH) : Run (d + 1) 128 128 [.inr (.inr (.inl 9)), .inr (.inr (.inl 12)), .inl x0, z1, .inl x2, .inl x3, .inl x4, z5] [.inl y6] h = (if y6 = (-1) then Run (d + 1) 128 62 [.inr (.inr (.inl 9)), .inr (.inr (.inl 12)), .inl x0, z1, .inl x2, .inl x3, .inl (wI (x4 + 1)), .inl y6] [] h else (if 0 ≤ x4 ∧ x4 < 8 then (if 0 ≤ x4 ∧ x4 < 8 then (cV (Run d 129 0 [.inr (.inr (.inl 9)), .inl x3, .inl x2, .inl (wI ((h 41 x4.toNat) + y6)), .inl (wI ((wI ((h 42 x4.toNat) * 10)) + x3)), vU] [] h) fun h4_ => Run (d + 1) 128 62 [.inr (.inr (.inl 9)), .inr (.inr (.inl 12)), .inl x0, z1, .inl x2, .inl x3, .inl (wI (x4 + 1)), .inl y6] [] h4_) else none) else none)) := by
  refine (R_istore (ls' := [.inr (.inr (.inl 9)), .inr (.inr (.inl 12)), .inl x0, z1, .inl x2, .inl x3, .inl x4, .inl y6]) zf128_128 (Nat.le_of_ble_eq_true rfl) rfl rfl).trans ?_
  refine (R_iload zf128_130 rfl rfl).trans ?_
  refine (R_iconst zf128_132 zw_m1 rfl).trans ?_
  refine (R_icmp_eq (t := 167) zf128_133 rfl rfl).trans ?_
  refine ite_congr rfl (fun c1_ => ?_) (fun c1_ => ?_)
  · refine (R_iinc (ls' := [.inr (.inr (.inl 9)), .inr (.inr (.inl 12)), .inl x0, z1, .inl x2, .inl x3, .inl (wI (x4 + 1)), .inl y6]) zf128_167 rfl rfl rfl).trans ?_
    refine (R_goto (t := 62) zf128_170 rfl).trans ?_
    rfl
  · refine (R_aload_n zf128_136 rfl zlt_9 rfl).trans ?_
    refine (R_iload zf128_137 rfl rfl).trans ?_
    refine (R_iload zf128_139 rfl rfl).trans ?_
    refine (R_aload_n zf128_141 rfl zlt_9 rfl).trans ?_
    refine (R_getR zf128_142 zo_128 zfl_7_17 zk1_9 zft_7_1 zmr_9_1 rfl).trans ?_
    refine (R_iload zf128_145 rfl rfl).trans ?_
    refine (R_iald zf128_147 zk_41 rfl).trans ?_
    refine ite_congr rfl (fun c2_ => ?_) (fun _ => rfl)
    refine (R_iload zf128_148 rfl rfl).trans ?_
    refine (R_iadd zf128_150 rfl).trans ?_
    refine (R_aload_n zf128_151 rfl zlt_9 rfl).trans ?_
    refine (R_getR zf128_152 zo_128 zfl_7_20 zk1_9 zft_7_2 zmr_9_2 rfl).trans ?_
    refine (R_iload zf128_155 rfl rfl).trans ?_
    refine (R_iald zf128_157 zk_42 rfl).trans ?_
    refine ite_congr rfl (fun c3_ => ?_) (fun _ => rfl)
    refine (R_bipush zf128_158 zb_10 rfl).trans ?_
    refine (R_imul zf128_160 rfl).trans ?_
    refine (R_iload zf128_161 rfl rfl).trans ?_
    refine (R_iadd zf128_163 rfl).trans ?_
    refine (R_vcallV zf128_164 zo_128 zvl_7_53 zr_129 zl_129 (Nat.le_of_ble_eq_true rfl) rfl rfl (Nat.le_of_ble_eq_true rfl) (Nat.le_of_ble_eq_true rfl) (es := [.inr (.inr (.inl 9)), .inl x3, .inl x2, .inl (wI ((h 41 x4.toNat) + y6)), .inl (wI ((wI ((h 42 x4.toNat) * 10)) + x3)), vU]) rfl rfl zk1_9 zo_129).trans ?_
    refine congrArg (cV _) (funext fun h4_ => ?_)
    refine (R_iinc (ls' := [.inr (.inr (.inl 9)), .inr (.inr (.inl 12)), .inl x0, z1, .inl x2, .inl x3, .inl (wI (x4 + 1)), .inl y6]) zf128_167 rfl rfl rfl).trans ?_
    refine (R_goto (t := 62) zf128_170 rfl).trans ?_
    rfl
-- CannonPost$Paths.leads(LCannonPost$State;IIII)Z at 0
theorem q134_0 (d : Nat) (x0 : Int) (x1 : Int) (x2 : Int) (x3 : Int) (h : MH) : Run (d + 1) 134 0 [.inr (.inr (.inl 9)), .inr (.inr (.inl 12)), .inl x0, .inl x1, .inl x2, .inl x3, vU, vU, vU, vU, vU] [] h = (if 0 ≤ (wI (x0.tdiv 10)) ∧ (wI (x0.tdiv 10)) < 5 then (if (iAnd (iShr x2 (h 44 (wI (x0.tdiv 10)).toNat)) 1) = 0 then Run (d + 1) 134 43 [.inr (.inr (.inl 9)), .inr (.inr (.inl 12)), .inl x0, .inl x1, .inl x2, .inl x3, .inl (wI (x0.tdiv 10)), .inl (x0.tmod 10), .inl (h 44 (wI (x0.tdiv 10)).toNat), vU, vU] [.inl x2] h else Run (d + 1) 134 43 [.inr (.inr (.inl 9)), .inr (.inr (.inl 12)), .inl x0, .inl x1, .inl x2, .inl x3, .inl (wI (x0.tdiv 10)), .inl (x0.tmod 10), .inl (h 44 (wI (x0.tdiv 10)).toNat), vU, vU] [.inl (iOr x2 (iShl 1 (x0.tmod 10)))] h) else none) := by
  refine (R_iload_n zf134_0 rfl rfl).trans ?_
  refine (R_bipush zf134_1 zb_10 rfl).trans ?_
  refine (R_idiv zf134_3 (by decide) rfl).trans ?_
  refine (R_istore (ls' := [.inr (.inr (.inl 9)), .inr (.inr (.inl 12)), .inl x0, .inl x1, .inl x2, .inl x3, .inl (wI (x0.tdiv 10)), vU, vU, vU, vU]) zf134_4 (Nat.le_of_ble_eq_true rfl) rfl rfl).trans ?_
  refine (R_iload_n zf134_6 rfl rfl).trans ?_
  refine (R_bipush zf134_7 zb_10 rfl).trans ?_
  refine (R_irem zf134_9 (by decide) rfl).trans ?_
  refine (R_istore (ls' := [.inr (.inr (.inl 9)), .inr (.inr (.inl 12)), .inl x0, .inl x1, .inl x2, .inl x3, .inl (wI (x0.tdiv 10)), .inl (x0.tmod 10), vU, vU, vU]) zf134_10 (Nat.le_of_ble_eq_true rfl) rfl rfl).trans ?_
  refine (R_aload_n zf134_12 rfl zlt_9 rfl).trans ?_
  refine (R_getR zf134_13 zo_134 zfl_7_26 zk1_9 zft_7_4 zmr_9_4 rfl).trans ?_
  refine (R_iload zf134_16 rfl rfl).trans ?_
  refine (R_iald zf134_18 zk_44 rfl).trans ?_
  refine ite_congr rfl (fun c1_ => ?_) (fun _ => rfl)
  refine (R_istore (ls' := [.inr (.inr (.inl 9)), .inr (.inr (.inl 12)), .inl x0, .inl x1, .inl x2, .inl x3, .inl (wI (x0.tdiv 10)), .inl (x0.tmod 10), .inl (h 44 (wI (x0.tdiv 10)).toNat), vU, vU]) zf134_19 (Nat.le_of_ble_eq_true rfl) rfl rfl).trans ?_
  refine (R_iload zf134_21 rfl rfl).trans ?_
  refine (R_iload zf134_23 rfl rfl).trans ?_
  refine (R_ishr zf134_25 rfl).trans ?_
  refine (R_iconst zf134_26 zw_1 rfl).trans ?_
  refine (R_iand zf134_27 rfl).trans ?_
  refine (R_if_eq (t := 41) zf134_28 rfl rfl).trans ?_
  refine ite_congr rfl (fun c2_ => ?_) (fun c2_ => ?_)
  · refine (R_iload zf134_41 rfl rfl).trans ?_
    rfl
  · refine (R_iload zf134_31 rfl rfl).trans ?_
    refine (R_iconst zf134_33 zw_1 rfl).trans ?_
    refine (R_iload zf134_34 rfl rfl).trans ?_
    refine (R_ishl zf134_36 rfl).trans ?_
    refine (R_ior zf134_37 rfl).trans ?_
    refine (R_goto (t := 43) zf134_38 rfl).trans ?_
    rfl
-- java/util/Arrays.fill([II)V at 5
theorem q48_5_3 (d : Nat) (x0 : Int) (x1 : Int) (x2 : Int) (h : MH) : Run d 48 5 [.inr (.inr (.inl 47)), .inl x0, .inl x1, .inl x2] [] h = (if x2 ≤ x1 then some (none, h) else (if 0 ≤ x1 ∧ x1 < 61 then Run d 48 5 [.inr (.inr (.inl 47)), .inl x0, .inl (wI (x1 + 1)), .inl x2] [] (up h 47 x1.toNat x0) else none)) := by
  refine (R_iload_n zf48_5 rfl rfl).trans ?_
  refine (R_iload_n zf48_6 rfl rfl).trans ?_
  refine (R_icmp_ge (t := 20) zf48_7 rfl rfl).trans ?_
  refine ite_congr rfl (fun c1_ => ?_) (fun c1_ => ?_)
  · exact R_return zf48_20 zr_48
  · refine (R_aload_n zf48_10 rfl zlt_47 rfl).trans ?_
    refine (R_iload_n zf48_11 rfl rfl).trans ?_
    refine (R_iload_n zf48_12 rfl rfl).trans ?_
    refine (R_iast zf48_13 zk_47 rfl).trans ?_
    refine ite_congr rfl (fun c2_ => ?_) (fun _ => rfl)
    refine (R_iinc (ls' := [.inr (.inr (.inl 47)), .inl x0, .inl (wI (x1 + 1)), .inl x2]) zf48_14 rfl rfl rfl).trans ?_
    refine (R_goto (t := 5) zf48_17 rfl).trans ?_
    rfl
-- CannonPostModel.spotOf(Ljava/lang/String;I)I at 2
theorem q191_2 (d : Nat) (x0 : Int) (x1 : Int) (h : MH) : Run (d + 1) 191 2 [.inr (.inr (.inl 130)), .inl x0, .inl x1] [] h = (cI (Run d 28 0 [.inr (.inr (.inl 130))] [] h) fun a2_ h1_ => (if a2_ ≤ x1 then some (some (.inl (-1)), h1_) else (cI (Run d 11 0 [.inr (.inr (.inl 130)), .inl x1] [] h1_) fun a5_ h4_ => (if ¬ a5_ = x0 then Run (d + 1) 191 2 [.inr (.inr (.inl 130)), .inl x0, .inl (wI (x1 + 1))] [] h4_ else some (some (.inl x1), h4_))))) := by
  refine (R_iload_n zf191_2 rfl rfl).trans ?_
  refine (R_aload_n zf191_3 rfl zlt_130 rfl).trans ?_
  refine (R_vcallI zf191_4 zo_191 zvl_12_99 (by rw [zr_28]; rfl) zl_28 (Nat.le_of_ble_eq_true rfl) rfl rfl (Nat.le_of_ble_eq_true rfl) (Nat.le_of_ble_eq_true rfl) (es := [.inr (.inr (.inl 130))]) rfl rfl zk1_130 zo_28).trans ?_
  refine congrArg (cI _) (funext fun a2_ => funext fun h1_ => ?_)
  refine (R_icmp_ge (t := 27) zf191_7 rfl rfl).trans ?_
  refine ite_congr rfl (fun c3_ => ?_) (fun c3_ => ?_)
  · refine (R_iconst zf191_27 zw_m1 rfl).trans ?_
    exact R_ireturn_i zf191_28 zr_191
  · refine (R_aload_n zf191_10 rfl zlt_130 rfl).trans ?_
    refine (R_iload_n zf191_11 rfl rfl).trans ?_
    refine (R_vcallI zf191_12 zo_191 zvl_12_105 (by rw [zr_11]; rfl) zl_11 (Nat.le_of_ble_eq_true rfl) rfl rfl (Nat.le_of_ble_eq_true rfl) (Nat.le_of_ble_eq_true rfl) (es := [.inr (.inr (.inl 130)), .inl x1]) rfl rfl zk1_130 zo_11).trans ?_
    refine congrArg (cI _) (funext fun a5_ => funext fun h4_ => ?_)
    refine (R_iload_n zf191_15 rfl rfl).trans ?_
    refine (R_icmp_ne (t := 21) zf191_16 rfl rfl).trans ?_
    refine ite_congr rfl (fun c6_ => ?_) (fun c6_ => ?_)
    · refine (R_iinc (ls' := [.inr (.inr (.inl 130)), .inl x0, .inl (wI (x1 + 1))]) zf191_21 rfl rfl rfl).trans ?_
      refine (R_goto (t := 2) zf191_24 rfl).trans ?_
      rfl
    · refine (R_iload_n zf191_19 rfl rfl).trans ?_
      exact R_ireturn_i zf191_20 zr_191
-- CannonPostModel.isDigit()Z at 0
theorem q196_0 (d : Nat) (h : MH) : Run d 196 0 [.inr (.inr (.inl 97))] [] h = (if (h 97 9) ≤ (h 97 10) then some (some (.inl 0), h) else (if h 97 5 = 98 then (if 0 ≤ (wI ((h 97 8) + (h 97 10))) ∧ (wI ((h 97 8) + (h 97 10))) < 240 then (if (h 98 (wI ((h 97 8) + (h 97 10))).toNat) < 48 then some (some (.inl 0), h) else (if h 97 5 = 98 then (if 0 ≤ (wI ((h 97 8) + (h 97 10))) ∧ (wI ((h 97 8) + (h 97 10))) < 240 then (if 57 < (h 98 (wI ((h 97 8) + (h 97 10))).toNat) then some (some (.inl 0), h) else some (some (.inl 1), h)) else none) else (if h 97 5 = 99 then (if 0 ≤ (wI ((h 97 8) + (h 97 10))) ∧ (wI ((h 97 8) + (h 97 10))) < 960 then (if 57 < (h 99 (wI ((h 97 8) + (h 97 10))).toNat) then some (some (.inl 0), h) else some (some (.inl 1), h)) else none) else Run d 196 31 [.inr (.inr (.inl 97))] [.inr (.inr (.inl 97))] h))) else none) else (if h 97 5 = 99 then (if 0 ≤ (wI ((h 97 8) + (h 97 10))) ∧ (wI ((h 97 8) + (h 97 10))) < 960 then (if (h 99 (wI ((h 97 8) + (h 97 10))).toNat) < 48 then some (some (.inl 0), h) else (if h 97 5 = 98 then (if 0 ≤ (wI ((h 97 8) + (h 97 10))) ∧ (wI ((h 97 8) + (h 97 10))) < 240 then (if 57 < (h 98 (wI ((h 97 8) + (h 97 10))).toNat) then some (some (.inl 0), h) else some (some (.inl 1), h)) else none) else (if h 97 5 = 99 then (if 0 ≤ (wI ((h 97 8) + (h 97 10))) ∧ (wI ((h 97 8) + (h 97 10))) < 960 then (if 57 < (h 99 (wI ((h 97 8) + (h 97 10))).toNat) then some (some (.inl 0), h) else some (some (.inl 1), h)) else none) else Run d 196 31 [.inr (.inr (.inl 97))] [.inr (.inr (.inl 97))] h))) else none) else Run d 196 12 [.inr (.inr (.inl 97))] [.inr (.inr (.inl 97))] h))) := by
  refine (R_aload_n zf196_0 rfl zlt_97 rfl).trans ?_
  refine (R_getI zf196_1 zo_196 zfl_12_119 zk1_97 zft_12_10 rfl).trans ?_
  refine (R_aload_n zf196_4 rfl zlt_97 rfl).trans ?_
  refine (R_getI zf196_5 zo_196 zfl_12_122 zk1_97 zft_12_9 rfl).trans ?_
  refine (R_icmp_ge (t := 53) zf196_8 rfl rfl).trans ?_
  refine ite_congr rfl (fun c1_ => ?_) (fun c1_ => ?_)
  · refine (R_iconst zf196_53 zw_0 rfl).trans ?_
    exact R_ireturn zf196_54 (by rw [zr_196]; rfl)
  · refine (R_aload_n zf196_11 rfl zlt_97 rfl).trans ?_
    refine (switch_if (c := h 97 5 = 98) (fun c2_ => ?_) (fun c2_ => ?_))
    · refine (R_getMc (b := 98) zf196_12 zo_196 zfl_12_23 zk1_97 zft_12_5 c2_ rfl rfl).trans ?_
      refine (R_aload_n zf196_15 rfl zlt_97 rfl).trans ?_
      refine (R_getI zf196_16 zo_196 zfl_12_125 zk1_97 zft_12_8 rfl).trans ?_
      refine (R_aload_n zf196_19 rfl zlt_97 rfl).trans ?_
      refine (R_getI zf196_20 zo_196 zfl_12_119 zk1_97 zft_12_10 rfl).trans ?_
      refine (R_iadd zf196_23 rfl).trans ?_
      refine (R_bald zf196_24 zk_98 rfl).trans ?_
      refine ite_congr rfl (fun c3_ => ?_) (fun _ => rfl)
      refine (R_bipush zf196_25 zb_48 rfl).trans ?_
      refine (R_icmp_lt (t := 53) zf196_27 rfl rfl).trans ?_
      refine ite_congr rfl (fun c4_ => ?_) (fun c4_ => ?_)
      · refine (R_iconst zf196_53 zw_0 rfl).trans ?_
        exact R_ireturn zf196_54 (by rw [zr_196]; rfl)
      · refine (R_aload_n zf196_30 rfl zlt_97 rfl).trans ?_
        refine (switch_if (c := h 97 5 = 98) (fun c5_ => ?_) (fun c5_ => ?_))
        · refine (R_getMc (b := 98) zf196_31 zo_196 zfl_12_23 zk1_97 zft_12_5 c5_ rfl rfl).trans ?_
          refine (R_aload_n zf196_34 rfl zlt_97 rfl).trans ?_
          refine (R_getI zf196_35 zo_196 zfl_12_125 zk1_97 zft_12_8 rfl).trans ?_
          refine (R_aload_n zf196_38 rfl zlt_97 rfl).trans ?_
          refine (R_getI zf196_39 zo_196 zfl_12_119 zk1_97 zft_12_10 rfl).trans ?_
          refine (R_iadd zf196_42 rfl).trans ?_
          refine (R_bald zf196_43 zk_98 rfl).trans ?_
          refine ite_congr rfl (fun c6_ => ?_) (fun _ => rfl)
          refine (R_bipush zf196_44 zb_57 rfl).trans ?_
          refine (R_icmp_gt (t := 53) zf196_46 rfl rfl).trans ?_
          refine ite_congr rfl (fun c7_ => ?_) (fun c7_ => ?_)
          · refine (R_iconst zf196_53 zw_0 rfl).trans ?_
            exact R_ireturn zf196_54 (by rw [zr_196]; rfl)
          · refine (R_iconst zf196_49 zw_1 rfl).trans ?_
            refine (R_goto (t := 54) zf196_50 rfl).trans ?_
            exact R_ireturn zf196_54 (by rw [zr_196]; rfl)
        refine (switch_if (c := h 97 5 = 99) (fun c8_ => ?_) (fun c8_ => ?_))
        · refine (R_getMc (b := 99) zf196_31 zo_196 zfl_12_23 zk1_97 zft_12_5 c8_ rfl rfl).trans ?_
          refine (R_aload_n zf196_34 rfl zlt_97 rfl).trans ?_
          refine (R_getI zf196_35 zo_196 zfl_12_125 zk1_97 zft_12_8 rfl).trans ?_
          refine (R_aload_n zf196_38 rfl zlt_97 rfl).trans ?_
          refine (R_getI zf196_39 zo_196 zfl_12_119 zk1_97 zft_12_10 rfl).trans ?_
          refine (R_iadd zf196_42 rfl).trans ?_
          refine (R_bald zf196_43 zk_99 rfl).trans ?_
          refine ite_congr rfl (fun c9_ => ?_) (fun _ => rfl)
          refine (R_bipush zf196_44 zb_57 rfl).trans ?_
          refine (R_icmp_gt (t := 53) zf196_46 rfl rfl).trans ?_
          refine ite_congr rfl (fun c10_ => ?_) (fun c10_ => ?_)
          · refine (R_iconst zf196_53 zw_0 rfl).trans ?_
            exact R_ireturn zf196_54 (by rw [zr_196]; rfl)
          · refine (R_iconst zf196_49 zw_1 rfl).trans ?_
            refine (R_goto (t := 54) zf196_50 rfl).trans ?_
            exact R_ireturn zf196_54 (by rw [zr_196]; rfl)
        rfl
    refine (switch_if (c := h 97 5 = 99) (fun c11_ => ?_) (fun c11_ => ?_))
    · refine (R_getMc (b := 99) zf196_12 zo_196 zfl_12_23 zk1_97 zft_12_5 c11_ rfl rfl).trans ?_
      refine (R_aload_n zf196_15 rfl zlt_97 rfl).trans ?_
      refine (R_getI zf196_16 zo_196 zfl_12_125 zk1_97 zft_12_8 rfl).trans ?_
      refine (R_aload_n zf196_19 rfl zlt_97 rfl).trans ?_
      refine (R_getI zf196_20 zo_196 zfl_12_119 zk1_97 zft_12_10 rfl).trans ?_
      refine (R_iadd zf196_23 rfl).trans ?_
      refine (R_bald zf196_24 zk_99 rfl).trans ?_
      refine ite_congr rfl (fun c12_ => ?_) (fun _ => rfl)
      refine (R_bipush zf196_25 zb_48 rfl).trans ?_
      refine (R_icmp_lt (t := 53) zf196_27 rfl rfl).trans ?_
      refine ite_congr rfl (fun c13_ => ?_) (fun c13_ => ?_)
      · refine (R_iconst zf196_53 zw_0 rfl).trans ?_
        exact R_ireturn zf196_54 (by rw [zr_196]; rfl)
      · refine (R_aload_n zf196_30 rfl zlt_97 rfl).trans ?_
        refine (switch_if (c := h 97 5 = 98) (fun c14_ => ?_) (fun c14_ => ?_))
        · refine (R_getMc (b := 98) zf196_31 zo_196 zfl_12_23 zk1_97 zft_12_5 c14_ rfl rfl).trans ?_
          refine (R_aload_n zf196_34 rfl zlt_97 rfl).trans ?_
          refine (R_getI zf196_35 zo_196 zfl_12_125 zk1_97 zft_12_8 rfl).trans ?_
          refine (R_aload_n zf196_38 rfl zlt_97 rfl).trans ?_
          refine (R_getI zf196_39 zo_196 zfl_12_119 zk1_97 zft_12_10 rfl).trans ?_
          refine (R_iadd zf196_42 rfl).trans ?_
          refine (R_bald zf196_43 zk_98 rfl).trans ?_
          refine ite_congr rfl (fun c15_ => ?_) (fun _ => rfl)
          refine (R_bipush zf196_44 zb_57 rfl).trans ?_
          refine (R_icmp_gt (t := 53) zf196_46 rfl rfl).trans ?_
          refine ite_congr rfl (fun c16_ => ?_) (fun c16_ => ?_)
          · refine (R_iconst zf196_53 zw_0 rfl).trans ?_
            exact R_ireturn zf196_54 (by rw [zr_196]; rfl)
          · refine (R_iconst zf196_49 zw_1 rfl).trans ?_
            refine (R_goto (t := 54) zf196_50 rfl).trans ?_
            exact R_ireturn zf196_54 (by rw [zr_196]; rfl)
        refine (switch_if (c := h 97 5 = 99) (fun c17_ => ?_) (fun c17_ => ?_))
        · refine (R_getMc (b := 99) zf196_31 zo_196 zfl_12_23 zk1_97 zft_12_5 c17_ rfl rfl).trans ?_
          refine (R_aload_n zf196_34 rfl zlt_97 rfl).trans ?_
          refine (R_getI zf196_35 zo_196 zfl_12_125 zk1_97 zft_12_8 rfl).trans ?_
          refine (R_aload_n zf196_38 rfl zlt_97 rfl).trans ?_
          refine (R_getI zf196_39 zo_196 zfl_12_119 zk1_97 zft_12_10 rfl).trans ?_
          refine (R_iadd zf196_42 rfl).trans ?_
          refine (R_bald zf196_43 zk_99 rfl).trans ?_
          refine ite_congr rfl (fun c18_ => ?_) (fun _ => rfl)
          refine (R_bipush zf196_44 zb_57 rfl).trans ?_
          refine (R_icmp_gt (t := 53) zf196_46 rfl rfl).trans ?_
          refine ite_congr rfl (fun c19_ => ?_) (fun c19_ => ?_)
          · refine (R_iconst zf196_53 zw_0 rfl).trans ?_
            exact R_ireturn zf196_54 (by rw [zr_196]; rfl)
          · refine (R_iconst zf196_49 zw_1 rfl).trans ?_
            refine (R_goto (t := 54) zf196_50 rfl).trans ?_
            exact R_ireturn zf196_54 (by rw [zr_196]; rfl)
        rfl
    rfl
-- java/lang/String.length()I at 0
theorem q28_0 (d : Nat) (h : MH) : Run (d + 1) 28 0 [.inr (.inr (.inl 126))] [] h = (cI (Run d 29 0 [.inr (.inr (.inl 126))] [] h) fun a2_ h1_ => some (some (.inl (iShr 1 a2_)), h1_)) := by
  refine (R_aload_n zf28_0 rfl zlt_126 rfl).trans ?_
  refine (R_getR zf28_1 zo_28 zfl_13_9 zk1_126 zft_13_0 zmr_126_0 rfl).trans ?_
  refine (R_len111 (v := 1) zf28_4 zk_133 rfl rfl).trans ?_
  refine (R_aload_n zf28_5 rfl zlt_126 rfl).trans ?_
  refine (R_vcallI zf28_6 zo_28 zvl_13_335 (by rw [zr_29]; rfl) zl_29 (Nat.le_of_ble_eq_true rfl) rfl rfl (Nat.le_of_ble_eq_true rfl) (Nat.le_of_ble_eq_true rfl) (es := [.inr (.inr (.inl 126))]) rfl rfl zk1_126 zo_29).trans ?_
  refine congrArg (cI _) (funext fun a2_ => funext fun h1_ => ?_)
  refine (R_ishr zf28_9 rfl).trans ?_
  exact R_ireturn_i zf28_10 zr_28
-- java/lang/String.charAt(I)C at 0
theorem q11_0 (d : Nat) (x0 : Int) (h : MH) : Run (d + 1) 11 0 [.inr (.inr (.inl 126)), .inl x0] [] h = (cI (Run d 12 0 [.inr (.inr (.inl 126))] [] h) fun a2_ h1_ => (if a2_ = 0 then Run (d + 1) 11 21 [.inr (.inr (.inl 126)), .inl x0] [.inl x0, .inr (.inr (.inl 133))] h1_ else (cI (Run d 13 0 [.inr (.inr (.inl 133)), .inl x0] [] h1_) fun a5_ h4_ => (if 0 ≤ a5_ ∧ a5_ ≤ 65535 then some (some (.inl a5_), h4_) else none)))) := by
  refine (R_aload_n zf11_0 rfl zlt_126 rfl).trans ?_
  refine (R_vcallI zf11_1 zo_11 zvl_13_492 (by rw [zr_12]; rfl) zl_12 (Nat.le_of_ble_eq_true rfl) rfl rfl (Nat.le_of_ble_eq_true rfl) (Nat.le_of_ble_eq_true rfl) (es := [.inr (.inr (.inl 126))]) rfl rfl zk1_126 zo_12).trans ?_
  refine congrArg (cI _) (funext fun a2_ => funext fun h1_ => ?_)
  refine (R_if_eq (t := 16) zf11_4 rfl rfl).trans ?_
  refine ite_congr rfl (fun c3_ => ?_) (fun c3_ => ?_)
  · refine (R_aload_n zf11_16 rfl zlt_126 rfl).trans ?_
    refine (R_getR zf11_17 zo_11 zfl_13_9 zk1_126 zft_13_0 zmr_126_0 rfl).trans ?_
    refine (R_iload_n zf11_20 rfl rfl).trans ?_
    rfl
  · refine (R_aload_n zf11_7 rfl zlt_126 rfl).trans ?_
    refine (R_getR zf11_8 zo_11 zfl_13_9 zk1_126 zft_13_0 zmr_126_0 rfl).trans ?_
    refine (R_iload_n zf11_11 rfl rfl).trans ?_
    refine (R_callI zf11_12 zo_11 zsl_13_495 (by rw [zr_13]; rfl) zl_13 (Nat.le_of_ble_eq_true rfl) rfl rfl (Nat.le_of_ble_eq_true rfl) (Nat.le_of_ble_eq_true rfl) (es := [.inr (.inr (.inl 133)), .inl x0]) rfl rfl).trans ?_
    refine congrArg (cI _) (funext fun a5_ => funext fun h4_ => ?_)
    exact R_ireturn_c zf11_15 zr_11
-- CannonPostModel.unit()Z at 0
theorem q212_0 (d : Nat) (h : MH) : Run (d + 1) 212 0 [.inr (.inr (.inl 97)), vU, vU] [] h = (cI (Run d 188 0 [.inr (.inr (.inl 97))] [] h) fun a2_ h1_ => (if ¬ a2_ = 33 then (if ¬ a2_ = 40 then (cI (Run d 205 0 [.inr (.inr (.inl 97)), .inl 0, .inl 0, vU, vU, vU] [] h1_) fun a6_ h5_ => (if a6_ = 0 ∨ a6_ = 1 then some (some (.inl a6_), h5_) else none)) else (cI (Run d 209 0 [.inr (.inr (.inl 97))] [] h1_) fun a8_ h7_ => (if ¬ a8_ = 0 then (cI (Run d 203 0 [.inr (.inr (.inl 97)), .inl 0, .inl 0, vU, vU] [] h7_) fun a11_ h10_ => (cI (Run d 202 0 [.inr (.inr (.inl 97)), .inl 41] [] h10_) fun a13_ h12_ => (if ¬ a13_ = 0 then (if a11_ = 0 ∨ a11_ = 1 then some (some (.inl a11_), (up h12_ 97 12 (wI ((h12_ 97 12) - 1)))) else none) else some (some (.inl 0), h12_)))) else some (some (.inl 0), h7_)))) else (cI (Run d 209 0 [.inr (.inr (.inl 97))] [] h1_) fun a16_ h15_ => (if ¬ a16_ = 0 then (cI (Run d 212 0 [.inr (.inr (.inl 97)), vU, vU] [] h15_) fun a19_ h18_ => (if ¬ a19_ = 0 then some (some (.inl 0), (up h18_ 97 12 (wI ((h18_ 97 12) - 1)))) else some (some (.inl 1), (up h18_ 97 12 (wI ((h18_ 97 12) - 1)))))) else some (some (.inl 0), h15_))))) := by
  refine (R_aload_n zf212_0 rfl zlt_97 rfl).trans ?_
  refine (R_vcallI zf212_1 zo_212 zvl_12_138 (by rw [zr_188]; rfl) zl_188 (Nat.le_of_ble_eq_true rfl) rfl rfl (Nat.le_of_ble_eq_true rfl) (Nat.le_of_ble_eq_true rfl) (es := [.inr (.inr (.inl 97))]) rfl rfl zk1_97 zo_188).trans ?_
  refine congrArg (cI _) (funext fun a2_ => funext fun h1_ => ?_)
  refine (R_istore_n (ls' := [.inr (.inr (.inl 97)), .inl a2_, vU]) zf212_4 (Nat.le_of_ble_eq_true rfl) rfl rfl).trans ?_
  refine (R_iload_n zf212_5 rfl rfl).trans ?_
  refine (R_bipush zf212_6 zb_33 rfl).trans ?_
  refine (R_icmp_ne (t := 45) zf212_8 rfl rfl).trans ?_
  refine ite_congr rfl (fun c3_ => ?_) (fun c3_ => ?_)
  · refine (R_iload_n zf212_45 rfl rfl).trans ?_
    refine (R_bipush zf212_46 zb_40 rfl).trans ?_
    refine (R_icmp_ne (t := 90) zf212_48 rfl rfl).trans ?_
    refine ite_congr rfl (fun c4_ => ?_) (fun c4_ => ?_)
    · refine (R_aload_n zf212_90 rfl zlt_97 rfl).trans ?_
      refine (R_iconst zf212_91 zw_0 rfl).trans ?_
      refine (R_iconst zf212_92 zw_0 rfl).trans ?_
      refine (R_vcallI zf212_93 zo_212 zvl_12_191 (by rw [zr_205]; rfl) zl_205 (Nat.le_of_ble_eq_true rfl) rfl rfl (Nat.le_of_ble_eq_true rfl) (Nat.le_of_ble_eq_true rfl) (es := [.inr (.inr (.inl 97)), .inl 0, .inl 0, vU, vU, vU]) rfl rfl zk1_97 zo_205).trans ?_
      refine congrArg (cI _) (funext fun a6_ => funext fun h5_ => ?_)
      exact R_ireturn_z zf212_96 zr_212
    · refine (R_aload_n zf212_51 rfl zlt_97 rfl).trans ?_
      refine (R_vcallI zf212_52 zo_212 zvl_12_158 (by rw [zr_209]; rfl) zl_209 (Nat.le_of_ble_eq_true rfl) rfl rfl (Nat.le_of_ble_eq_true rfl) (Nat.le_of_ble_eq_true rfl) (es := [.inr (.inr (.inl 97))]) rfl rfl zk1_97 zo_209).trans ?_
      refine congrArg (cI _) (funext fun a8_ => funext fun h7_ => ?_)
      refine (R_if_ne (t := 60) zf212_55 rfl rfl).trans ?_
      refine ite_congr rfl (fun c9_ => ?_) (fun c9_ => ?_)
      · refine (R_aload_n zf212_60 rfl zlt_97 rfl).trans ?_
        refine (R_iconst zf212_61 zw_0 rfl).trans ?_
        refine (R_iconst zf212_62 zw_0 rfl).trans ?_
        refine (R_vcallI zf212_63 zo_212 zvl_12_187 (by rw [zr_203]; rfl) zl_203 (Nat.le_of_ble_eq_true rfl) rfl rfl (Nat.le_of_ble_eq_true rfl) (Nat.le_of_ble_eq_true rfl) (es := [.inr (.inr (.inl 97)), .inl 0, .inl 0, vU, vU]) rfl rfl zk1_97 zo_203).trans ?_
        refine congrArg (cI _) (funext fun a11_ => funext fun h10_ => ?_)
        refine (R_istore_n (ls' := [.inr (.inr (.inl 97)), .inl a2_, .inl a11_]) zf212_66 (Nat.le_of_ble_eq_true rfl) rfl rfl).trans ?_
        refine (R_aload_n zf212_67 rfl zlt_97 rfl).trans ?_
        refine (R_bipush zf212_68 zb_41 rfl).trans ?_
        refine (R_vcallI zf212_70 zo_212 zvl_12_164 (by rw [zr_202]; rfl) zl_202 (Nat.le_of_ble_eq_true rfl) rfl rfl (Nat.le_of_ble_eq_true rfl) (Nat.le_of_ble_eq_true rfl) (es := [.inr (.inr (.inl 97)), .inl 41]) rfl rfl zk1_97 zo_202).trans ?_
        refine congrArg (cI _) (funext fun a13_ => funext fun h12_ => ?_)
        refine (R_if_ne (t := 78) zf212_73 rfl rfl).trans ?_
        refine ite_congr rfl (fun c14_ => ?_) (fun c14_ => ?_)
        · refine (R_aload_n zf212_78 rfl zlt_97 rfl).trans ?_
          refine (R_dup zf212_79 rfl rfl).trans ?_
          refine (R_getI zf212_80 zo_212 zfl_12_131 zk1_97 zft_12_12 rfl).trans ?_
          refine (R_iconst zf212_83 zw_1 rfl).trans ?_
          refine (R_isub zf212_84 rfl).trans ?_
          refine (R_putI zf212_85 zo_212 zfl_12_131 zk1_97 zft_12_12 rfl).trans ?_
          refine (R_iload_n zf212_88 rfl rfl).trans ?_
          exact R_ireturn_z zf212_89 zr_212
        · refine (R_iconst zf212_76 zw_0 rfl).trans ?_
          exact R_ireturn zf212_77 (by rw [zr_212]; rfl)
      · refine (R_iconst zf212_58 zw_0 rfl).trans ?_
        exact R_ireturn zf212_59 (by rw [zr_212]; rfl)
  · refine (R_aload_n zf212_11 rfl zlt_97 rfl).trans ?_
    refine (R_vcallI zf212_12 zo_212 zvl_12_158 (by rw [zr_209]; rfl) zl_209 (Nat.le_of_ble_eq_true rfl) rfl rfl (Nat.le_of_ble_eq_true rfl) (Nat.le_of_ble_eq_true rfl) (es := [.inr (.inr (.inl 97))]) rfl rfl zk1_97 zo_209).trans ?_
    refine congrArg (cI _) (funext fun a16_ => funext fun h15_ => ?_)
    refine (R_if_ne (t := 20) zf212_15 rfl rfl).trans ?_
    refine ite_congr rfl (fun c17_ => ?_) (fun c17_ => ?_)
    · refine (R_aload_n zf212_20 rfl zlt_97 rfl).trans ?_
      refine (R_vcallI zf212_21 zo_212 zvl_12_184 (by rw [zr_212]; rfl) zl_212 (Nat.le_of_ble_eq_true rfl) rfl rfl (Nat.le_of_ble_eq_true rfl) (Nat.le_of_ble_eq_true rfl) (es := [.inr (.inr (.inl 97)), vU, vU]) rfl rfl zk1_97 zo_212).trans ?_
      refine congrArg (cI _) (funext fun a19_ => funext fun h18_ => ?_)
      refine (R_istore_n (ls' := [.inr (.inr (.inl 97)), .inl a2_, .inl a19_]) zf212_24 (Nat.le_of_ble_eq_true rfl) rfl rfl).trans ?_
      refine (R_aload_n zf212_25 rfl zlt_97 rfl).trans ?_
      refine (R_dup zf212_26 rfl rfl).trans ?_
      refine (R_getI zf212_27 zo_212 zfl_12_131 zk1_97 zft_12_12 rfl).trans ?_
      refine (R_iconst zf212_30 zw_1 rfl).trans ?_
      refine (R_isub zf212_31 rfl).trans ?_
      refine (R_putI zf212_32 zo_212 zfl_12_131 zk1_97 zft_12_12 rfl).trans ?_
      refine (R_iload_n zf212_35 rfl rfl).trans ?_
      refine (R_if_ne (t := 43) zf212_36 rfl rfl).trans ?_
      refine ite_congr rfl (fun c20_ => ?_) (fun c20_ => ?_)
      · refine (R_iconst zf212_43 zw_0 rfl).trans ?_
        exact R_ireturn zf212_44 (by rw [zr_212]; rfl)
      · refine (R_iconst zf212_39 zw_1 rfl).trans ?_
        refine (R_goto (t := 44) zf212_40 rfl).trans ?_
        exact R_ireturn zf212_44 (by rw [zr_212]; rfl)
    · refine (R_iconst zf212_18 zw_0 rfl).trans ?_
      exact R_ireturn zf212_19 (by rw [zr_212]; rfl)
-- CannonPostModel.part(ZI)Z at 18
theorem q204_18 (d : Nat) (z0 : MV) (hz0 : cat z0 = 1) (z1 : MV) (hz1 : cat z1 = 1) (x2 : Int) (z3 : MV) (hz3 : cat z3 = 1) (h : MH) : Run (d + 1) 204 18 [.inr (.inr (.inl 97)), z0, z1, .inl x2, z3] [] h = (if ¬ (h 97 11) = (-1) then (if x2 = 0 ∨ x2 = 1 then some (some (.inl x2), h) else none) else (cI (Run d 188 0 [.inr (.inr (.inl 97))] [] h) fun a3_ h2_ => (if ¬ a3_ = 38 then (if x2 = 0 ∨ x2 = 1 then some (some (.inl x2), h2_) else none) else (cI (Run d 212 0 [.inr (.inr (.inl 97)), vU, vU] [] (up h2_ 97 10 (wI ((h2_ 97 10) + 1)))) fun a6_ h5_ => (if x2 = 0 then Run (d + 1) 204 18 [.inr (.inr (.inl 97)), z0, z1, .inl 0, .inl a6_] [] h5_ else (if a6_ = 0 then Run (d + 1) 204 18 [.inr (.inr (.inl 97)), z0, z1, .inl 0, .inl a6_] [] h5_ else Run (d + 1) 204 18 [.inr (.inr (.inl 97)), z0, z1, .inl 1, .inl a6_] [] h5_)))))) := by
  refine (R_aload_n zf204_18 rfl zlt_97 rfl).trans ?_
  refine (R_getI zf204_19 zo_204 zfl_12_128 zk1_97 zft_12_11 rfl).trans ?_
  refine (R_iconst zf204_22 zw_m1 rfl).trans ?_
  refine (R_icmp_ne (t := 69) zf204_23 rfl rfl).trans ?_
  refine ite_congr rfl (fun c1_ => ?_) (fun c1_ => ?_)
  · refine (R_iload_n zf204_69 rfl rfl).trans ?_
    exact R_ireturn_z zf204_70 zr_204
  · refine (R_aload_n zf204_26 rfl zlt_97 rfl).trans ?_
    refine (R_vcallI zf204_27 zo_204 zvl_12_138 (by rw [zr_188]; rfl) zl_188 (Nat.le_of_ble_eq_true rfl) rfl rfl (Nat.le_of_ble_eq_true rfl) (Nat.le_of_ble_eq_true rfl) (es := [.inr (.inr (.inl 97))]) rfl rfl zk1_97 zo_188).trans ?_
    refine congrArg (cI _) (funext fun a3_ => funext fun h2_ => ?_)
    refine (R_bipush zf204_30 zb_38 rfl).trans ?_
    refine (R_icmp_ne (t := 69) zf204_32 rfl rfl).trans ?_
    refine ite_congr rfl (fun c4_ => ?_) (fun c4_ => ?_)
    · refine (R_iload_n zf204_69 rfl rfl).trans ?_
      exact R_ireturn_z zf204_70 zr_204
    · refine (R_aload_n zf204_35 rfl zlt_97 rfl).trans ?_
      refine (R_dup zf204_36 rfl rfl).trans ?_
      refine (R_getI zf204_37 zo_204 zfl_12_119 zk1_97 zft_12_10 rfl).trans ?_
      refine (R_iconst zf204_40 zw_1 rfl).trans ?_
      refine (R_iadd zf204_41 rfl).trans ?_
      refine (R_putI zf204_42 zo_204 zfl_12_119 zk1_97 zft_12_10 rfl).trans ?_
      refine (R_aload_n zf204_45 rfl zlt_97 rfl).trans ?_
      refine (R_vcallI zf204_46 zo_204 zvl_12_184 (by rw [zr_212]; rfl) zl_212 (Nat.le_of_ble_eq_true rfl) rfl rfl (Nat.le_of_ble_eq_true rfl) (Nat.le_of_ble_eq_true rfl) (es := [.inr (.inr (.inl 97)), vU, vU]) rfl rfl zk1_97 zo_212).trans ?_
      refine congrArg (cI _) (funext fun a6_ => funext fun h5_ => ?_)
      refine (R_istore (ls' := [.inr (.inr (.inl 97)), z0, z1, .inl x2, .inl a6_]) zf204_49 (Nat.le_of_ble_eq_true rfl) rfl rfl).trans ?_
      refine (R_iload_n zf204_51 rfl rfl).trans ?_
      refine (R_if_eq (t := 64) zf204_52 rfl rfl).trans ?_
      refine ite_congr rfl (fun c7_ => ?_) (fun c7_ => ?_)
      · refine (R_iconst zf204_64 zw_0 rfl).trans ?_
        refine (R_istore_n (ls' := [.inr (.inr (.inl 97)), z0, z1, .inl 0, .inl a6_]) zf204_65 (Nat.le_of_ble_eq_true rfl) (st1_z rfl hz1 rfl) rfl).trans ?_
        refine (R_goto (t := 18) zf204_66 rfl).trans ?_
        rfl
      · refine (R_iload zf204_55 rfl rfl).trans ?_
        refine (R_if_eq (t := 64) zf204_57 rfl rfl).trans ?_
        refine ite_congr rfl (fun c8_ => ?_) (fun c8_ => ?_)
        · refine (R_iconst zf204_64 zw_0 rfl).trans ?_
          refine (R_istore_n (ls' := [.inr (.inr (.inl 97)), z0, z1, .inl 0, .inl a6_]) zf204_65 (Nat.le_of_ble_eq_true rfl) (st1_z rfl hz1 rfl) rfl).trans ?_
          refine (R_goto (t := 18) zf204_66 rfl).trans ?_
          rfl
        · refine (R_iconst zf204_60 zw_1 rfl).trans ?_
          refine (R_goto (t := 65) zf204_61 rfl).trans ?_
          refine (R_istore_n (ls' := [.inr (.inr (.inl 97)), z0, z1, .inl 1, .inl a6_]) zf204_65 (Nat.le_of_ble_eq_true rfl) (st1_z rfl hz1 rfl) rfl).trans ?_
          refine (R_goto (t := 18) zf204_66 rfl).trans ?_
          rfl
-- CannonPostModel.compares(ZI)Z at 0
theorem q205_0 (d : Nat) (x0 : Int) (x1 : Int) (h : MH) : Run (d + 1) 205 0 [.inr (.inr (.inl 97)), .inl x0, .inl x1, vU, vU, vU] [] h = (if x0 = 0 then (cI (Run d 206 0 [.inr (.inr (.inl 97)), vU, vU, vU, vU] [] h) fun a3_ h2_ => Run (d + 1) 205 12 [.inr (.inr (.inl 97)), .inl x0, .inl x1, vU, vU, vU] [.inl a3_] h2_) else Run (d + 1) 205 12 [.inr (.inr (.inl 97)), .inl x0, .inl x1, vU, vU, vU] [.inl x1] h) := by
  refine (R_iload_n zf205_0 rfl rfl).trans ?_
  refine (R_if_eq (t := 8) zf205_1 rfl rfl).trans ?_
  refine ite_congr rfl (fun c1_ => ?_) (fun c1_ => ?_)
  · refine (R_aload_n zf205_8 rfl zlt_97 rfl).trans ?_
    refine (R_vcallI zf205_9 zo_205 zvl_12_161 (by rw [zr_206]; rfl) zl_206 (Nat.le_of_ble_eq_true rfl) rfl rfl (Nat.le_of_ble_eq_true rfl) (Nat.le_of_ble_eq_true rfl) (es := [.inr (.inr (.inl 97)), vU, vU, vU, vU]) rfl rfl zk1_97 zo_206).trans ?_
    refine congrArg (cI _) (funext fun a3_ => funext fun h2_ => ?_)
    rfl
  · refine (R_iload_n zf205_4 rfl rfl).trans ?_
    refine (R_goto (t := 12) zf205_5 rfl).trans ?_
    rfl
-- CannonPostModel.atom()I at 0
theorem q208_0 (d : Nat) (h : MH) : Run (d + 1) 208 0 [.inr (.inr (.inl 97)), vU, vU, vU] [] h = (cI (Run d 188 0 [.inr (.inr (.inl 97))] [] h) fun a2_ h1_ => (cI (Run d 201 0 [.inr (.inr (.inl 125)), .inl a2_, vU] [] h1_) fun a4_ h3_ => (if a4_ = 0 then (if ¬ a2_ = 91 then (cI (Run d 196 0 [.inr (.inr (.inl 97))] [] h3_) fun a8_ h7_ => (if ¬ a8_ = 0 then Run (d + 1) 208 90 [.inr (.inr (.inl 97)), .inl a2_, .inl 0, .inl 0] [] h7_ else (cI (Run d 189 0 [.inr (.inr (.inl 97))] [] h7_) fun a11_ h10_ => Run (d + 1) 208 90 [.inr (.inr (.inl 97)), .inl a2_, .inl 0, .inl 0] [] h10_))) else (cI (Run d 209 0 [.inr (.inr (.inl 97))] [] h3_) fun a13_ h12_ => (if ¬ a13_ = 0 then (cI (Run d 206 0 [.inr (.inr (.inl 97)), vU, vU, vU, vU] [] h12_) fun a16_ h15_ => (cI (Run d 202 0 [.inr (.inr (.inl 97)), .inl 93] [] h15_) fun a18_ h17_ => (if ¬ a18_ = 0 then some (some (.inl a16_), (up h17_ 97 12 (wI ((h17_ 97 12) - 1)))) else some (some (.inl 0), h17_)))) else some (some (.inl 0), h12_)))) else (if 0 ≤ a2_ ∧ a2_ < 128 then some (some (.inl ((up h3_ 97 10 (wI ((h3_ 97 10) + 1))) 101 a2_.toNat)), (up h3_ 97 10 (wI ((h3_ 97 10) + 1)))) else none)))) := by
  refine (R_aload_n zf208_0 rfl zlt_97 rfl).trans ?_
  refine (R_vcallI zf208_1 zo_208 zvl_12_138 (by rw [zr_188]; rfl) zl_188 (Nat.le_of_ble_eq_true rfl) rfl rfl (Nat.le_of_ble_eq_true rfl) (Nat.le_of_ble_eq_true rfl) (es := [.inr (.inr (.inl 97))]) rfl rfl zk1_97 zo_188).trans ?_
  refine congrArg (cI _) (funext fun a2_ => funext fun h1_ => ?_)
  refine (R_istore_n (ls' := [.inr (.inr (.inl 97)), .inl a2_, vU, vU]) zf208_4 (Nat.le_of_ble_eq_true rfl) rfl rfl).trans ?_
  refine (R_ldcS zf208_5 zo_208 zcl_12_32 zrl_12_32 rfl).trans ?_
  refine (R_iload_n zf208_7 rfl rfl).trans ?_
  refine (R_callI zf208_8 zo_208 zsl_12_154 (by rw [zr_201]; rfl) zl_201 (Nat.le_of_ble_eq_true rfl) rfl rfl (Nat.le_of_ble_eq_true rfl) (Nat.le_of_ble_eq_true rfl) (es := [.inr (.inr (.inl 125)), .inl a2_, vU]) rfl rfl).trans ?_
  refine congrArg (cI _) (funext fun a4_ => funext fun h3_ => ?_)
  refine (R_if_eq (t := 31) zf208_11 rfl rfl).trans ?_
  refine ite_congr rfl (fun c5_ => ?_) (fun c5_ => ?_)
  · refine (R_iload_n zf208_31 rfl rfl).trans ?_
    refine (R_bipush zf208_32 zb_91 rfl).trans ?_
    refine (R_icmp_ne (t := 74) zf208_34 rfl rfl).trans ?_
    refine ite_congr rfl (fun c6_ => ?_) (fun c6_ => ?_)
    · refine (R_aload_n zf208_74 rfl zlt_97 rfl).trans ?_
      refine (R_vcallI zf208_75 zo_208 zvl_12_168 (by rw [zr_196]; rfl) zl_196 (Nat.le_of_ble_eq_true rfl) rfl rfl (Nat.le_of_ble_eq_true rfl) (Nat.le_of_ble_eq_true rfl) (es := [.inr (.inr (.inl 97))]) rfl rfl zk1_97 zo_196).trans ?_
      refine congrArg (cI _) (funext fun a8_ => funext fun h7_ => ?_)
      refine (R_if_ne (t := 86) zf208_78 rfl rfl).trans ?_
      refine ite_congr rfl (fun c9_ => ?_) (fun c9_ => ?_)
      · refine (R_iconst zf208_86 zw_0 rfl).trans ?_
        refine (R_istore_n (ls' := [.inr (.inr (.inl 97)), .inl a2_, .inl 0, vU]) zf208_87 (Nat.le_of_ble_eq_true rfl) rfl rfl).trans ?_
        refine (R_iconst zf208_88 zw_0 rfl).trans ?_
        refine (R_istore_n (ls' := [.inr (.inr (.inl 97)), .inl a2_, .inl 0, .inl 0]) zf208_89 (Nat.le_of_ble_eq_true rfl) rfl rfl).trans ?_
        rfl
      · refine (R_aload_n zf208_81 rfl zlt_97 rfl).trans ?_
        refine (R_vcallI zf208_82 zo_208 zvl_12_134 (by rw [zr_189]; rfl) zl_189 (Nat.le_of_ble_eq_true rfl) rfl rfl (Nat.le_of_ble_eq_true rfl) (Nat.le_of_ble_eq_true rfl) (es := [.inr (.inr (.inl 97))]) rfl rfl zk1_97 zo_189).trans ?_
        refine congrArg (cI _) (funext fun a11_ => funext fun h10_ => ?_)
        refine (R_pop zf208_85 rfl rfl).trans ?_
        refine (R_iconst zf208_86 zw_0 rfl).trans ?_
        refine (R_istore_n (ls' := [.inr (.inr (.inl 97)), .inl a2_, .inl 0, vU]) zf208_87 (Nat.le_of_ble_eq_true rfl) rfl rfl).trans ?_
        refine (R_iconst zf208_88 zw_0 rfl).trans ?_
        refine (R_istore_n (ls' := [.inr (.inr (.inl 97)), .inl a2_, .inl 0, .inl 0]) zf208_89 (Nat.le_of_ble_eq_true rfl) rfl rfl).trans ?_
        rfl
    · refine (R_aload_n zf208_37 rfl zlt_97 rfl).trans ?_
      refine (R_vcallI zf208_38 zo_208 zvl_12_158 (by rw [zr_209]; rfl) zl_209 (Nat.le_of_ble_eq_true rfl) rfl rfl (Nat.le_of_ble_eq_true rfl) (Nat.le_of_ble_eq_true rfl) (es := [.inr (.inr (.inl 97))]) rfl rfl zk1_97 zo_209).trans ?_
      refine congrArg (cI _) (funext fun a13_ => funext fun h12_ => ?_)
      refine (R_if_ne (t := 46) zf208_41 rfl rfl).trans ?_
      refine ite_congr rfl (fun c14_ => ?_) (fun c14_ => ?_)
      · refine (R_aload_n zf208_46 rfl zlt_97 rfl).trans ?_
        refine (R_vcallI zf208_47 zo_208 zvl_12_161 (by rw [zr_206]; rfl) zl_206 (Nat.le_of_ble_eq_true rfl) rfl rfl (Nat.le_of_ble_eq_true rfl) (Nat.le_of_ble_eq_true rfl) (es := [.inr (.inr (.inl 97)), vU, vU, vU, vU]) rfl rfl zk1_97 zo_206).trans ?_
        refine congrArg (cI _) (funext fun a16_ => funext fun h15_ => ?_)
        refine (R_istore_n (ls' := [.inr (.inr (.inl 97)), .inl a2_, .inl a16_, vU]) zf208_50 (Nat.le_of_ble_eq_true rfl) rfl rfl).trans ?_
        refine (R_aload_n zf208_51 rfl zlt_97 rfl).trans ?_
        refine (R_bipush zf208_52 zb_93 rfl).trans ?_
        refine (R_vcallI zf208_54 zo_208 zvl_12_164 (by rw [zr_202]; rfl) zl_202 (Nat.le_of_ble_eq_true rfl) rfl rfl (Nat.le_of_ble_eq_true rfl) (Nat.le_of_ble_eq_true rfl) (es := [.inr (.inr (.inl 97)), .inl 93]) rfl rfl zk1_97 zo_202).trans ?_
        refine congrArg (cI _) (funext fun a18_ => funext fun h17_ => ?_)
        refine (R_if_ne (t := 62) zf208_57 rfl rfl).trans ?_
        refine ite_congr rfl (fun c19_ => ?_) (fun c19_ => ?_)
        · refine (R_aload_n zf208_62 rfl zlt_97 rfl).trans ?_
          refine (R_dup zf208_63 rfl rfl).trans ?_
          refine (R_getI zf208_64 zo_208 zfl_12_131 zk1_97 zft_12_12 rfl).trans ?_
          refine (R_iconst zf208_67 zw_1 rfl).trans ?_
          refine (R_isub zf208_68 rfl).trans ?_
          refine (R_putI zf208_69 zo_208 zfl_12_131 zk1_97 zft_12_12 rfl).trans ?_
          refine (R_iload_n zf208_72 rfl rfl).trans ?_
          exact R_ireturn_i zf208_73 zr_208
        · refine (R_iconst zf208_60 zw_0 rfl).trans ?_
          exact R_ireturn_i zf208_61 zr_208
      · refine (R_iconst zf208_44 zw_0 rfl).trans ?_
        exact R_ireturn_i zf208_45 zr_208
  · refine (R_aload_n zf208_14 rfl zlt_97 rfl).trans ?_
    refine (R_dup zf208_15 rfl rfl).trans ?_
    refine (R_getI zf208_16 zo_208 zfl_12_119 zk1_97 zft_12_10 rfl).trans ?_
    refine (R_iconst zf208_19 zw_1 rfl).trans ?_
    refine (R_iadd zf208_20 rfl).trans ?_
    refine (R_putI zf208_21 zo_208 zfl_12_119 zk1_97 zft_12_10 rfl).trans ?_
    refine (R_aload_n zf208_24 rfl zlt_97 rfl).trans ?_
    refine (R_getR zf208_25 zo_208 zfl_12_20 zk1_97 zft_12_4 zmr_97_4 rfl).trans ?_
    refine (R_iload_n zf208_28 rfl rfl).trans ?_
    refine (R_iald zf208_29 zk_101 rfl).trans ?_
    refine ite_congr rfl (fun c20_ => ?_) (fun _ => rfl)
    exact R_ireturn_i zf208_30 zr_208
-- CannonPostModel.term()I at 5
theorem q207_5 (d : Nat) (x0 : Int) (z1 : MV) (hz1 : cat z1 = 1) (z2 : MV) (hz2 : cat z2 = 1) (z3 : MV) (hz3 : cat z3 = 1) (h : MH) : Run (d + 1) 207 5 [.inr (.inr (.inl 97)), .inl x0, z1, z2, z3] [] h = (if ¬ (h 97 11) = (-1) then some (some (.inl x0), h) else (cI (Run d 188 0 [.inr (.inr (.inl 97))] [] h) fun a3_ h2_ => (if a3_ = 42 then (cI (Run d 188 0 [.inr (.inr (.inl 97))] [] h2_) fun a6_ h5_ => (if ¬ a6_ = 42 then Run (d + 1) 207 45 [.inr (.inr (.inl 97)), .inl x0, z1, z2, z3] [.inl 0] h5_ else Run (d + 1) 207 45 [.inr (.inr (.inl 97)), .inl x0, z1, z2, z3] [.inl 1] h5_)) else (cI (Run d 188 0 [.inr (.inr (.inl 97))] [] h2_) fun a9_ h8_ => (if ¬ a9_ = 47 then some (some (.inl x0), h8_) else (cI (Run d 188 0 [.inr (.inr (.inl 97))] [] h8_) fun a12_ h11_ => (if ¬ a12_ = 42 then Run (d + 1) 207 45 [.inr (.inr (.inl 97)), .inl x0, z1, z2, z3] [.inl 0] h11_ else Run (d + 1) 207 45 [.inr (.inr (.inl 97)), .inl x0, z1, z2, z3] [.inl 1] h11_))))))) := by
  refine (R_aload_n zf207_5 rfl zlt_97 rfl).trans ?_
  refine (R_getI zf207_6 zo_207 zfl_12_128 zk1_97 zft_12_11 rfl).trans ?_
  refine (R_iconst zf207_9 zw_m1 rfl).trans ?_
  refine (R_icmp_ne (t := 94) zf207_10 rfl rfl).trans ?_
  refine ite_congr rfl (fun c1_ => ?_) (fun c1_ => ?_)
  · refine (R_iload_n zf207_94 rfl rfl).trans ?_
    exact R_ireturn_i zf207_95 zr_207
  · refine (R_aload_n zf207_13 rfl zlt_97 rfl).trans ?_
    refine (R_vcallI zf207_14 zo_207 zvl_12_138 (by rw [zr_188]; rfl) zl_188 (Nat.le_of_ble_eq_true rfl) rfl rfl (Nat.le_of_ble_eq_true rfl) (Nat.le_of_ble_eq_true rfl) (es := [.inr (.inr (.inl 97))]) rfl rfl zk1_97 zo_188).trans ?_
    refine congrArg (cI _) (funext fun a3_ => funext fun h2_ => ?_)
    refine (R_bipush zf207_17 zb_42 rfl).trans ?_
    refine (R_icmp_eq (t := 31) zf207_19 rfl rfl).trans ?_
    refine ite_congr rfl (fun c4_ => ?_) (fun c4_ => ?_)
    · refine (R_aload_n zf207_31 rfl zlt_97 rfl).trans ?_
      refine (R_vcallI zf207_32 zo_207 zvl_12_138 (by rw [zr_188]; rfl) zl_188 (Nat.le_of_ble_eq_true rfl) rfl rfl (Nat.le_of_ble_eq_true rfl) (Nat.le_of_ble_eq_true rfl) (es := [.inr (.inr (.inl 97))]) rfl rfl zk1_97 zo_188).trans ?_
      refine congrArg (cI _) (funext fun a6_ => funext fun h5_ => ?_)
      refine (R_bipush zf207_35 zb_42 rfl).trans ?_
      refine (R_icmp_ne (t := 44) zf207_37 rfl rfl).trans ?_
      refine ite_congr rfl (fun c7_ => ?_) (fun c7_ => ?_)
      · refine (R_iconst zf207_44 zw_0 rfl).trans ?_
        rfl
      · refine (R_iconst zf207_40 zw_1 rfl).trans ?_
        refine (R_goto (t := 45) zf207_41 rfl).trans ?_
        rfl
    · refine (R_aload_n zf207_22 rfl zlt_97 rfl).trans ?_
      refine (R_vcallI zf207_23 zo_207 zvl_12_138 (by rw [zr_188]; rfl) zl_188 (Nat.le_of_ble_eq_true rfl) rfl rfl (Nat.le_of_ble_eq_true rfl) (Nat.le_of_ble_eq_true rfl) (es := [.inr (.inr (.inl 97))]) rfl rfl zk1_97 zo_188).trans ?_
      refine congrArg (cI _) (funext fun a9_ => funext fun h8_ => ?_)
      refine (R_bipush zf207_26 zb_47 rfl).trans ?_
      refine (R_icmp_ne (t := 94) zf207_28 rfl rfl).trans ?_
      refine ite_congr rfl (fun c10_ => ?_) (fun c10_ => ?_)
      · refine (R_iload_n zf207_94 rfl rfl).trans ?_
        exact R_ireturn_i zf207_95 zr_207
      · refine (R_aload_n zf207_31 rfl zlt_97 rfl).trans ?_
        refine (R_vcallI zf207_32 zo_207 zvl_12_138 (by rw [zr_188]; rfl) zl_188 (Nat.le_of_ble_eq_true rfl) rfl rfl (Nat.le_of_ble_eq_true rfl) (Nat.le_of_ble_eq_true rfl) (es := [.inr (.inr (.inl 97))]) rfl rfl zk1_97 zo_188).trans ?_
        refine congrArg (cI _) (funext fun a12_ => funext fun h11_ => ?_)
        refine (R_bipush zf207_35 zb_42 rfl).trans ?_
        refine (R_icmp_ne (t := 44) zf207_37 rfl rfl).trans ?_
        refine ite_congr rfl (fun c13_ => ?_) (fun c13_ => ?_)
        · refine (R_iconst zf207_44 zw_0 rfl).trans ?_
          rfl
        · refine (R_iconst zf207_40 zw_1 rfl).trans ?_
          refine (R_goto (t := 45) zf207_41 rfl).trans ?_
          rfl
-- CannonPostModel.sum()I at 45
theorem q206_45 (d : Nat) (x0 : Int) (z1 : MV) (hz1 : cat z1 = 1) (z2 : MV) (hz2 : cat z2 = 1) (z3 : MV) (hz3 : cat z3 = 1) (y4 : Int) (h : MH) : Run (d + 1) 206 45 [.inr (.inr (.inl 97)), .inl x0, z1, z2, z3] [.inl y4] h = (cI (Run d 207 0 [.inr (.inr (.inl 97)), vU, vU, vU, vU] [] (up h 97 10 (wI ((h 97 10) + 1)))) fun a2_ h1_ => (if y4 = 0 then (cI (Run d 210 0 [.inr (.inl (wL (x0 - a2_))), vU] [] h1_) fun a5_ h4_ => Run (d + 1) 206 5 [.inr (.inr (.inl 97)), .inl a5_, .inl y4, .inr (.inl a2_), vU] [] h4_) else (cI (Run d 210 0 [.inr (.inl (wL (x0 + a2_))), vU] [] h1_) fun a7_ h6_ => Run (d + 1) 206 5 [.inr (.inr (.inl 97)), .inl a7_, .inl y4, .inr (.inl a2_), vU] [] h6_))) := by
  refine (R_istore_n (ls' := [.inr (.inr (.inl 97)), .inl x0, .inl y4, z2, z3]) zf206_45 (Nat.le_of_ble_eq_true rfl) rfl rfl).trans ?_
  refine (R_aload_n zf206_46 rfl zlt_97 rfl).trans ?_
  refine (R_dup zf206_47 rfl rfl).trans ?_
  refine (R_getI zf206_48 zo_206 zfl_12_119 zk1_97 zft_12_10 rfl).trans ?_
  refine (R_iconst zf206_51 zw_1 rfl).trans ?_
  refine (R_iadd zf206_52 rfl).trans ?_
  refine (R_putI zf206_53 zo_206 zfl_12_119 zk1_97 zft_12_10 rfl).trans ?_
  refine (R_aload_n zf206_56 rfl zlt_97 rfl).trans ?_
  refine (R_vcallI zf206_57 zo_206 zvl_12_178 (by rw [zr_207]; rfl) zl_207 (Nat.le_of_ble_eq_true rfl) rfl rfl (Nat.le_of_ble_eq_true rfl) (Nat.le_of_ble_eq_true rfl) (es := [.inr (.inr (.inl 97)), vU, vU, vU, vU]) rfl rfl zk1_97 zo_207).trans ?_
  refine congrArg (cI _) (funext fun a2_ => funext fun h1_ => ?_)
  refine (R_i2l zf206_60 rfl).trans ?_
  refine (R_lstore_n (ls' := [.inr (.inr (.inl 97)), .inl x0, .inl y4, .inr (.inl a2_), vU]) zf206_61 (Nat.le_of_ble_eq_true rfl) rfl rfl).trans ?_
  refine (R_iload_n zf206_62 rfl rfl).trans ?_
  refine (R_if_eq (t := 73) zf206_63 rfl rfl).trans ?_
  refine ite_congr rfl (fun c3_ => ?_) (fun c3_ => ?_)
  · refine (R_iload_n zf206_73 rfl rfl).trans ?_
    refine (R_i2l zf206_74 rfl).trans ?_
    refine (R_lload_n zf206_75 rfl rfl).trans ?_
    refine (R_lsub zf206_76 rfl).trans ?_
    refine (R_callI zf206_77 zo_206 zsl_12_174 (by rw [zr_210]; rfl) zl_210 (Nat.le_of_ble_eq_true rfl) rfl rfl (Nat.le_of_ble_eq_true rfl) (Nat.le_of_ble_eq_true rfl) (es := [.inr (.inl (wL (x0 - a2_))), vU]) rfl rfl).trans ?_
    refine congrArg (cI _) (funext fun a5_ => funext fun h4_ => ?_)
    refine (R_istore_n (ls' := [.inr (.inr (.inl 97)), .inl a5_, .inl y4, .inr (.inl a2_), vU]) zf206_80 (Nat.le_of_ble_eq_true rfl) rfl rfl).trans ?_
    refine (R_goto (t := 5) zf206_81 rfl).trans ?_
    rfl
  · refine (R_iload_n zf206_66 rfl rfl).trans ?_
    refine (R_i2l zf206_67 rfl).trans ?_
    refine (R_lload_n zf206_68 rfl rfl).trans ?_
    refine (R_ladd zf206_69 rfl).trans ?_
    refine (R_goto (t := 77) zf206_70 rfl).trans ?_
    refine (R_callI zf206_77 zo_206 zsl_12_174 (by rw [zr_210]; rfl) zl_210 (Nat.le_of_ble_eq_true rfl) rfl rfl (Nat.le_of_ble_eq_true rfl) (Nat.le_of_ble_eq_true rfl) (es := [.inr (.inl (wL (x0 + a2_))), vU]) rfl rfl).trans ?_
    refine congrArg (cI _) (funext fun a7_ => funext fun h6_ => ?_)
    refine (R_istore_n (ls' := [.inr (.inr (.inl 97)), .inl a7_, .inl y4, .inr (.inl a2_), vU]) zf206_80 (Nat.le_of_ble_eq_true rfl) rfl rfl).trans ?_
    refine (R_goto (t := 5) zf206_81 rfl).trans ?_
    rfl
-- CannonPostModel.isWhole()Z at 2
theorem q198_2 (d : Nat) (x0 : Int) (z1 : MV) (hz1 : cat z1 = 1) (h : MH) : Run d 198 2 [.inr (.inr (.inl 97)), .inl x0, z1] [] h = (if (h 97 28) ≤ x0 then Run d 198 52 [.inr (.inr (.inl 97)), .inl 0, z1] [] h else Run d 198 12 [.inr (.inr (.inl 97)), .inl x0, .inl 0] [] h) := by
  refine (R_iload_n zf198_2 rfl rfl).trans ?_
  refine (R_aload_n zf198_3 rfl zlt_97 rfl).trans ?_
  refine (R_getI zf198_4 zo_198 zfl_12_245 zk1_97 zft_12_28 rfl).trans ?_
  refine (R_icmp_ge (t := 50) zf198_7 rfl rfl).trans ?_
  refine ite_congr rfl (fun c1_ => ?_) (fun c1_ => ?_)
  · refine (R_iconst zf198_50 zw_0 rfl).trans ?_
    refine (R_istore_n (ls' := [.inr (.inr (.inl 97)), .inl 0, z1]) zf198_51 (Nat.le_of_ble_eq_true rfl) rfl rfl).trans ?_
    rfl
  · refine (R_iconst zf198_10 zw_0 rfl).trans ?_
    refine (R_istore_n (ls' := [.inr (.inr (.inl 97)), .inl x0, .inl 0]) zf198_11 (Nat.le_of_ble_eq_true rfl) rfl rfl).trans ?_
    rfl
-- CannonPostModel.readItems(I[IILjava/lang/String;)V at 0
theorem q190_0 (d : Nat) (x0 : Int) (x1 : Int) (h : MH) : Run (d + 1) 190 0 [.inr (.inr (.inl 97)), .inl x0, .inr (.inr (.inl 107)), .inl x1, .inr (.inr (.inl 129)), vU, vU] [] h = Run (d + 1) 190 3 [.inr (.inr (.inl 97)), .inl x0, .inr (.inr (.inl 107)), .inl x1, .inr (.inr (.inl 129)), .inl 0, vU] [] h := by
  refine (R_iconst zf190_0 zw_0 rfl).trans ?_
  refine (R_istore (ls' := [.inr (.inr (.inl 97)), .inl x0, .inr (.inr (.inl 107)), .inl x1, .inr (.inr (.inl 129)), .inl 0, vU]) zf190_1 (Nat.le_of_ble_eq_true rfl) rfl rfl).trans ?_
  rfl
-- CannonPostModel.readItems(I[IILjava/lang/String;)V at 0
theorem q190_0_1 (d : Nat) (x0 : Int) (x1 : Int) (h : MH) : Run (d + 1) 190 0 [.inr (.inr (.inl 97)), .inl x0, .inr (.inr (.inl 105)), .inl x1, .inr (.inr (.inl 128)), vU, vU] [] h = Run (d + 1) 190 3 [.inr (.inr (.inl 97)), .inl x0, .inr (.inr (.inl 105)), .inl x1, .inr (.inr (.inl 128)), .inl 0, vU] [] h := by
  refine (R_iconst zf190_0 zw_0 rfl).trans ?_
  refine (R_istore (ls' := [.inr (.inr (.inl 97)), .inl x0, .inr (.inr (.inl 105)), .inl x1, .inr (.inr (.inl 128)), .inl 0, vU]) zf190_1 (Nat.le_of_ble_eq_true rfl) rfl rfl).trans ?_
  rfl
-- CannonPostModel.readItems(I[IILjava/lang/String;)V at 0
theorem q190_0_2 (d : Nat) (x0 : Int) (x1 : Int) (h : MH) : Run (d + 1) 190 0 [.inr (.inr (.inl 97)), .inl x0, .inr (.inr (.inl 103)), .inl x1, .inr (.inr (.inl 127)), vU, vU] [] h = Run (d + 1) 190 3 [.inr (.inr (.inl 97)), .inl x0, .inr (.inr (.inl 103)), .inl x1, .inr (.inr (.inl 127)), .inl 0, vU] [] h := by
  refine (R_iconst zf190_0 zw_0 rfl).trans ?_
  refine (R_istore (ls' := [.inr (.inr (.inl 97)), .inl x0, .inr (.inr (.inl 103)), .inl x1, .inr (.inr (.inl 127)), .inl 0, vU]) zf190_1 (Nat.le_of_ble_eq_true rfl) rfl rfl).trans ?_
  rfl
-- CannonPostModel.text(I)I at 322
theorem q216_322 (d : Nat) (z0 : MV) (hz0 : cat z0 = 1) (z1 : MV) (hz1 : cat z1 = 1) (x2 : Int) (h : MH) : Run (d + 1) 216 322 [.inr (.inr (.inl 97)), z0, z1, .inl x2] [] h = (if (h 97 26) ≤ x2 then Run (d + 1) 216 356 [.inr (.inr (.inl 97)), z0, z1, .inl 0] [] h else (if 0 ≤ (wI ((wI (3 * x2)) + 2)) ∧ (wI ((wI (3 * x2)) + 2)) < 24 then (if 0 ≤ (wI (0 + x2)) ∧ (wI (0 + x2)) < 277 then Run (d + 1) 216 322 [.inr (.inr (.inl 97)), z0, z1, .inl (wI (x2 + 1))] [] (up h 110 (wI (0 + x2)).toNat (h 104 (wI ((wI (3 * x2)) + 2)).toNat)) else none) else none)) := by
  refine (R_iload_n zf216_322 rfl rfl).trans ?_
  refine (R_aload_n zf216_323 rfl zlt_97 rfl).trans ?_
  refine (R_getI zf216_324 zo_216 zfl_12_294 zk1_97 zft_12_26 rfl).trans ?_
  refine (R_icmp_ge (t := 354) zf216_327 rfl rfl).trans ?_
  refine ite_congr rfl (fun c1_ => ?_) (fun c1_ => ?_)
  · refine (R_iconst zf216_354 zw_0 rfl).trans ?_
    refine (R_istore_n (ls' := [.inr (.inr (.inl 97)), z0, z1, .inl 0]) zf216_355 (Nat.le_of_ble_eq_true rfl) (st1_z rfl hz1 rfl) rfl).trans ?_
    rfl
  · refine (R_aload_n zf216_330 rfl zlt_97 rfl).trans ?_
    refine (R_getR zf216_331 zo_216 zfl_12_61 zk1_97 zft_12_32 zmr_97_32 rfl).trans ?_
    refine (R_iconst zf216_334 zw_0 rfl).trans ?_
    refine (R_iload_n zf216_335 rfl rfl).trans ?_
    refine (R_iadd zf216_336 rfl).trans ?_
    refine (R_aload_n zf216_337 rfl zlt_97 rfl).trans ?_
    refine (R_getR zf216_338 zo_216 zfl_12_43 zk1_97 zft_12_20 zmr_97_20 rfl).trans ?_
    refine (R_iconst zf216_341 zw_3 rfl).trans ?_
    refine (R_iload_n zf216_342 rfl rfl).trans ?_
    refine (R_imul zf216_343 rfl).trans ?_
    refine (R_iconst zf216_344 zw_2 rfl).trans ?_
    refine (R_iadd zf216_345 rfl).trans ?_
    refine (R_iald zf216_346 zk_104 rfl).trans ?_
    refine ite_congr rfl (fun c2_ => ?_) (fun _ => rfl)
    refine (R_iast zf216_347 zk_110 rfl).trans ?_
    refine ite_congr rfl (fun c3_ => ?_) (fun _ => rfl)
    refine (R_iinc (ls' := [.inr (.inr (.inl 97)), z0, z1, .inl (wI (x2 + 1))]) zf216_348 rfl (st1_z rfl hz1 rfl) rfl).trans ?_
    refine (R_goto (t := 322) zf216_351 rfl).trans ?_
    rfl
-- CannonPostModel.layAims(I)V at 112
theorem q264_112 (d : Nat) (x0 : Int) (x1 : Int) (x2 : Int) (x3 : Int) (x4 : Int) (y5 : Int) (y6 : Int) (h : MH) : Run (d + 1) 264 112 [.inr (.inr (.inl 97)), .inl x0, .inl x1, .inl x2, .inl x3, .inl x4] [.inl y5, .inl y6] h = (if ¬ y6 = y5 then Run (d + 1) 264 46 [.inr (.inr (.inl 97)), .inl x0, .inl x1, .inl x2, .inl (wI (x3 + 1)), .inl x4] [] h else (if 0 ≤ (wI ((wI (8 * (wI ((wI (8 * x0)) + x1)))) + x4)) ∧ (wI ((wI (8 * (wI ((wI (8 * x0)) + x1)))) + x4)) < 320 then Run (d + 1) 264 46 [.inr (.inr (.inl 97)), .inl x0, .inl x1, .inl x2, .inl (wI (x3 + 1)), .inl x4] [] (up h 113 (wI ((wI (8 * (wI ((wI (8 * x0)) + x1)))) + x4)).toNat x2) else none)) := by
  refine (R_icmp_ne (t := 133) zf264_112 rfl rfl).trans ?_
  refine ite_congr rfl (fun c1_ => ?_) (fun c1_ => ?_)
  · refine (R_iinc (ls' := [.inr (.inr (.inl 97)), .inl x0, .inl x1, .inl x2, .inl (wI (x3 + 1)), .inl x4]) zf264_133 rfl rfl rfl).trans ?_
    refine (R_goto (t := 46) zf264_136 rfl).trans ?_
    rfl
  · refine (R_aload_n zf264_115 rfl zlt_97 rfl).trans ?_
    refine (R_getR zf264_116 zo_264 zfl_12_74 zk1_97 zft_12_39 zmr_97_39 rfl).trans ?_
    refine (R_bipush zf264_119 zb_8 rfl).trans ?_
    refine (R_bipush zf264_121 zb_8 rfl).trans ?_
    refine (R_iload_n zf264_123 rfl rfl).trans ?_
    refine (R_imul zf264_124 rfl).trans ?_
    refine (R_iload_n zf264_125 rfl rfl).trans ?_
    refine (R_iadd zf264_126 rfl).trans ?_
    refine (R_imul zf264_127 rfl).trans ?_
    refine (R_iload zf264_128 rfl rfl).trans ?_
    refine (R_iadd zf264_130 rfl).trans ?_
    refine (R_iload_n zf264_131 rfl rfl).trans ?_
    refine (R_iast zf264_132 zk_113 rfl).trans ?_
    refine ite_congr rfl (fun c2_ => ?_) (fun _ => rfl)
    refine (R_iinc (ls' := [.inr (.inr (.inl 97)), .inl x0, .inl x1, .inl x2, .inl (wI (x3 + 1)), .inl x4]) zf264_133 rfl rfl rfl).trans ?_
    refine (R_goto (t := 46) zf264_136 rfl).trans ?_
    rfl
-- CannonPostModel.canKnow(III)Z at 19
theorem q276_19 (d : Nat) (x0 : Int) (x1 : Int) (x2 : Int) (x3 : Int) (z4 : MV) (hz4 : cat z4 = 1) (h : MH) : Run (d + 1) 276 19 [.inr (.inr (.inl 97)), .inl x0, .inl x1, .inl x2, .inl x3, z4] [] h = (if (h 97 27) ≤ x3 then some (some (.inl 0), h) else Run (d + 1) 276 31 [.inr (.inr (.inl 97)), .inl x0, .inl x1, .inl x2, .inl x3, .inl 0] [] h) := by
  refine (R_iload zf276_19 rfl rfl).trans ?_
  refine (R_aload_n zf276_21 rfl zlt_97 rfl).trans ?_
  refine (R_getI zf276_22 zo_276 zfl_12_297 zk1_97 zft_12_27 rfl).trans ?_
  refine (R_icmp_ge (t := 81) zf276_25 rfl rfl).trans ?_
  refine ite_congr rfl (fun c1_ => ?_) (fun c1_ => ?_)
  · refine (R_iconst zf276_81 zw_0 rfl).trans ?_
    exact R_ireturn zf276_82 (by rw [zr_276]; rfl)
  · refine (R_iconst zf276_28 zw_0 rfl).trans ?_
    refine (R_istore (ls' := [.inr (.inr (.inl 97)), .inl x0, .inl x1, .inl x2, .inl x3, .inl 0]) zf276_29 (Nat.le_of_ble_eq_true rfl) rfl rfl).trans ?_
    rfl
-- CannonPostModel.hasAim(II)Z at 2
theorem q283_2 (d : Nat) (x0 : Int) (x1 : Int) (x2 : Int) (h : MH) : Run (d + 1) 283 2 [.inr (.inr (.inl 97)), .inl x0, .inl x1, .inl x2] [] h = (if (h 97 27) ≤ x2 then some (some (.inl 0), h) else (cI (Run d 265 0 [.inr (.inr (.inl 97)), .inl x2, .inl x0, .inl x1] [] h) fun a3_ h2_ => (if a3_ ≤ 0 then Run (d + 1) 283 2 [.inr (.inr (.inl 97)), .inl x0, .inl x1, .inl (wI (x2 + 1))] [] h2_ else some (some (.inl 1), h2_)))) := by
  refine (R_iload_n zf283_2 rfl rfl).trans ?_
  refine (R_aload_n zf283_3 rfl zlt_97 rfl).trans ?_
  refine (R_getI zf283_4 zo_283 zfl_12_297 zk1_97 zft_12_27 rfl).trans ?_
  refine (R_icmp_ge (t := 28) zf283_7 rfl rfl).trans ?_
  refine ite_congr rfl (fun c1_ => ?_) (fun c1_ => ?_)
  · refine (R_iconst zf283_28 zw_0 rfl).trans ?_
    exact R_ireturn zf283_29 (by rw [zr_283]; rfl)
  · refine (R_aload_n zf283_10 rfl zlt_97 rfl).trans ?_
    refine (R_iload_n zf283_11 rfl rfl).trans ?_
    refine (R_iload_n zf283_12 rfl rfl).trans ?_
    refine (R_iload_n zf283_13 rfl rfl).trans ?_
    refine (R_vcallI zf283_14 zo_283 zvl_12_446 (by rw [zr_265]; rfl) zl_265 (Nat.le_of_ble_eq_true rfl) rfl rfl (Nat.le_of_ble_eq_true rfl) (Nat.le_of_ble_eq_true rfl) (es := [.inr (.inr (.inl 97)), .inl x2, .inl x0, .inl x1]) rfl rfl zk1_97 zo_265).trans ?_
    refine congrArg (cI _) (funext fun a3_ => funext fun h2_ => ?_)
    refine (R_if_le (t := 22) zf283_17 rfl rfl).trans ?_
    refine ite_congr rfl (fun c4_ => ?_) (fun c4_ => ?_)
    · refine (R_iinc (ls' := [.inr (.inr (.inl 97)), .inl x0, .inl x1, .inl (wI (x2 + 1))]) zf283_22 rfl rfl rfl).trans ?_
      refine (R_goto (t := 2) zf283_25 rfl).trans ?_
      rfl
    · refine (R_iconst zf283_20 zw_1 rfl).trans ?_
      exact R_ireturn zf283_21 (by rw [zr_283]; rfl)
-- CannonPost$LeagueReader.readItems([IIII)Z at 0
theorem q9_0_2 (d : Nat) (x0 : Int) (x1 : Int) (x2 : Int) (h : MH) : Run (d + 1) 9 0 [.inr (.inr (.inl 3)), .inr (.inr (.inl 21)), .inl x0, .inl x1, .inl x2, vU, vU, vU, vU] [] h = (if (0 : Int) ≤ (wI (x2 - x1)) ∧ (0 : Int) ≤ x0 ∧ (0 : Int) ≤ x1 ∧ (x0 + (wI (x2 - x1)) : Int) ≤ 15 ∧ (x1 + (wI (x2 - x1)) : Int) ≤ 10 then Run (d + 1) 9 19 [.inr (.inr (.inl 3)), .inr (.inr (.inl 21)), .inl x0, .inl x1, .inl x2, .inl 0, .inl 0, vU, vU] [] (cpy h (ro 121) 21 x1.toNat x0.toNat (wI (x2 - x1)).toNat) else none) := by
  refine (R_getsR zf9_0 zo_9 zgl_6_42 rfl).trans ?_
  refine (R_iload_n zf9_3 rfl rfl).trans ?_
  refine (R_aload_n zf9_4 rfl zlt_21 rfl).trans ?_
  refine (R_iload_n zf9_5 rfl rfl).trans ?_
  refine (R_iload zf9_6 rfl rfl).trans ?_
  refine (R_iload_n zf9_8 rfl rfl).trans ?_
  refine (R_isub zf9_9 rfl).trans ?_
  refine (R_acpyR zf9_10 zo_9 zsl_6_49 zal_6_49 zk_121 zk_21 (Nat.le_of_ble_eq_true rfl) rfl).trans ?_
  refine ite_congr rfl (fun c1_ => ?_) (fun _ => rfl)
  refine (R_iconst zf9_13 zw_0 rfl).trans ?_
  refine (R_istore (ls' := [.inr (.inr (.inl 3)), .inr (.inr (.inl 21)), .inl x0, .inl x1, .inl x2, .inl 0, vU, vU, vU]) zf9_14 (Nat.le_of_ble_eq_true rfl) rfl rfl).trans ?_
  refine (R_iconst zf9_16 zw_0 rfl).trans ?_
  refine (R_istore (ls' := [.inr (.inr (.inl 3)), .inr (.inr (.inl 21)), .inl x0, .inl x1, .inl x2, .inl 0, .inl 0, vU, vU]) zf9_17 (Nat.le_of_ble_eq_true rfl) rfl rfl).trans ?_
  rfl
-- CannonPost$LeagueReader.readItems([IIII)Z at 19
theorem q9_19_1 (d : Nat) (x0 : Int) (x1 : Int) (x2 : Int) (x3 : Int) (x4 : Int) (z5 : MV) (hz5 : cat z5 = 1) (z6 : MV) (hz6 : cat z6 = 1) (h : MH) : Run (d + 1) 9 19 [.inr (.inr (.inl 3)), .inr (.inr (.inl 20)), .inl x0, .inl x1, .inl x2, .inl x3, .inl x4, z5, z6] [] h = (if (wI (x2 - x1)) < x4 then some (some (.inl 0), h) else (cI (Run d 8 0 [.inr (.inr (.inl 1))] [] h) fun a3_ h2_ => (cI (Run d 10 0 [.inl a3_, .inl x1, .inl x2, vU] [] h2_) fun a5_ h4_ => (if ¬ a5_ = (-1) then (if (iAnd (iShr x3 a5_) 1) = 0 then (cI (Run d 8 0 [.inr (.inr (.inl 1))] [] (up h4_ 1 2 (wI ((h4_ 1 2) + 1)))) fun a9_ h8_ => (cI (Run d 16 0 [.inr (.inr (.inl 1)), .inl 2, vU, vU] [] h8_) fun a11_ h10_ => (if ¬ a11_ = (-1) then (if 0 ≤ a5_ ∧ a5_ < 10 then (if a11_ < (ro 122 a5_.toNat) then some (some (.inl 0), (up h10_ 1 2 (wI ((h10_ 1 2) - 1)))) else (if 0 ≤ a5_ ∧ a5_ < 10 then (if a11_ ≤ (ro 123 a5_.toNat) then (if 0 ≤ (wI ((wI (x0 + a5_)) - x1)) ∧ (wI ((wI (x0 + a5_)) - x1)) < 24 then Run (d + 1) 9 19 [.inr (.inr (.inl 3)), .inr (.inr (.inl 20)), .inl x0, .inl x1, .inl x2, .inl (iOr x3 (iShl 1 a5_)), .inl (wI (x4 + 1)), .inl a5_, .inl a11_] [] (up h10_ 20 (wI ((wI (x0 + a5_)) - x1)).toNat a11_) else none) else some (some (.inl 0), (up h10_ 1 2 (wI ((h10_ 1 2) - 1))))) else none)) else none) else some (some (.inl 0), h10_)))) else some (some (.inl 0), h4_)) else some (some (.inl 1), h4_))))) := by
  refine (R_iload zf9_19 rfl rfl).trans ?_
  refine (R_iload zf9_21 rfl rfl).trans ?_
  refine (R_iload_n zf9_23 rfl rfl).trans ?_
  refine (R_isub zf9_24 rfl).trans ?_
  refine (R_icmp_gt (t := 164) zf9_25 rfl rfl).trans ?_
  refine ite_congr rfl (fun c1_ => ?_) (fun c1_ => ?_)
  · refine (R_iconst zf9_164 zw_0 rfl).trans ?_
    exact R_ireturn zf9_165 (by rw [zr_9]; rfl)
  · refine (R_aload_n zf9_28 rfl zlt_3 rfl).trans ?_
    refine (R_getR zf9_29 zo_9 zfl_6_18 zk1_3 zft_6_1 zmr_3_1 rfl).trans ?_
    refine (R_vcallI zf9_32 zo_9 zvl_6_58 (by rw [zr_8]; rfl) zl_8 (Nat.le_of_ble_eq_true rfl) rfl rfl (Nat.le_of_ble_eq_true rfl) (Nat.le_of_ble_eq_true rfl) (es := [.inr (.inr (.inl 1))]) rfl rfl zk1_1 zo_8).trans ?_
    refine congrArg (cI _) (funext fun a3_ => funext fun h2_ => ?_)
    refine (R_iload_n zf9_35 rfl rfl).trans ?_
    refine (R_iload zf9_36 rfl rfl).trans ?_
    refine (R_callI zf9_38 zo_9 zsl_6_79 (by rw [zr_10]; rfl) zl_10 (Nat.le_of_ble_eq_true rfl) rfl rfl (Nat.le_of_ble_eq_true rfl) (Nat.le_of_ble_eq_true rfl) (es := [.inl a3_, .inl x1, .inl x2, vU]) rfl rfl).trans ?_
    refine congrArg (cI _) (funext fun a5_ => funext fun h4_ => ?_)
    refine (R_istore (ls' := [.inr (.inr (.inl 3)), .inr (.inr (.inl 20)), .inl x0, .inl x1, .inl x2, .inl x3, .inl x4, .inl a5_, z6]) zf9_41 (Nat.le_of_ble_eq_true rfl) rfl rfl).trans ?_
    refine (R_iload zf9_43 rfl rfl).trans ?_
    refine (R_iconst zf9_45 zw_m1 rfl).trans ?_
    refine (R_icmp_ne (t := 51) zf9_46 rfl rfl).trans ?_
    refine ite_congr rfl (fun c6_ => ?_) (fun c6_ => ?_)
    · refine (R_iload zf9_51 rfl rfl).trans ?_
      refine (R_iload zf9_53 rfl rfl).trans ?_
      refine (R_ishr zf9_55 rfl).trans ?_
      refine (R_iconst zf9_56 zw_1 rfl).trans ?_
      refine (R_iand zf9_57 rfl).trans ?_
      refine (R_if_eq (t := 63) zf9_58 rfl rfl).trans ?_
      refine ite_congr rfl (fun c7_ => ?_) (fun c7_ => ?_)
      · refine (R_iload zf9_63 rfl rfl).trans ?_
        refine (R_iconst zf9_65 zw_1 rfl).trans ?_
        refine (R_iload zf9_66 rfl rfl).trans ?_
        refine (R_ishl zf9_68 rfl).trans ?_
        refine (R_ior zf9_69 rfl).trans ?_
        refine (R_istore (ls' := [.inr (.inr (.inl 3)), .inr (.inr (.inl 20)), .inl x0, .inl x1, .inl x2, .inl (iOr x3 (iShl 1 a5_)), .inl x4, .inl a5_, z6]) zf9_70 (Nat.le_of_ble_eq_true rfl) rfl rfl).trans ?_
        refine (R_aload_n zf9_72 rfl zlt_3 rfl).trans ?_
        refine (R_getR zf9_73 zo_9 zfl_6_18 zk1_3 zft_6_1 zmr_3_1 rfl).trans ?_
        refine (R_dup zf9_76 rfl rfl).trans ?_
        refine (R_getI zf9_77 zo_9 zfl_6_22 zk1_1 zft_10_2 rfl).trans ?_
        refine (R_iconst zf9_80 zw_1 rfl).trans ?_
        refine (R_iadd zf9_81 rfl).trans ?_
        refine (R_putI zf9_82 zo_9 zfl_6_22 zk1_1 zft_10_2 rfl).trans ?_
        refine (R_aload_n zf9_85 rfl zlt_3 rfl).trans ?_
        refine (R_getR zf9_86 zo_9 zfl_6_18 zk1_3 zft_6_1 zmr_3_1 rfl).trans ?_
        refine (R_vcallI zf9_89 zo_9 zvl_6_58 (by rw [zr_8]; rfl) zl_8 (Nat.le_of_ble_eq_true rfl) rfl rfl (Nat.le_of_ble_eq_true rfl) (Nat.le_of_ble_eq_true rfl) (es := [.inr (.inr (.inl 1))]) rfl rfl zk1_1 zo_8).trans ?_
        refine congrArg (cI _) (funext fun a9_ => funext fun h8_ => ?_)
        refine (R_pop zf9_92 rfl rfl).trans ?_
        refine (R_aload_n zf9_93 rfl zlt_3 rfl).trans ?_
        refine (R_getR zf9_94 zo_9 zfl_6_18 zk1_3 zft_6_1 zmr_3_1 rfl).trans ?_
        refine (R_iconst zf9_97 zw_2 rfl).trans ?_
        refine (R_vcallI zf9_98 zo_9 zvl_6_83 (by rw [zr_16]; rfl) zl_16 (Nat.le_of_ble_eq_true rfl) rfl rfl (Nat.le_of_ble_eq_true rfl) (Nat.le_of_ble_eq_true rfl) (es := [.inr (.inr (.inl 1)), .inl 2, vU, vU]) rfl rfl zk1_1 zo_16).trans ?_
        refine congrArg (cI _) (funext fun a11_ => funext fun h10_ => ?_)
        refine (R_istore (ls' := [.inr (.inr (.inl 3)), .inr (.inr (.inl 20)), .inl x0, .inl x1, .inl x2, .inl (iOr x3 (iShl 1 a5_)), .inl x4, .inl a5_, .inl a11_]) zf9_101 (Nat.le_of_ble_eq_true rfl) rfl rfl).trans ?_
        refine (R_iload zf9_103 rfl rfl).trans ?_
        refine (R_iconst zf9_105 zw_m1 rfl).trans ?_
        refine (R_icmp_ne (t := 111) zf9_106 rfl rfl).trans ?_
        refine ite_congr rfl (fun c12_ => ?_) (fun c12_ => ?_)
        · refine (R_iload zf9_111 rfl rfl).trans ?_
          refine (R_getsR zf9_113 zo_9 zgl_6_87 rfl).trans ?_
          refine (R_iload zf9_116 rfl rfl).trans ?_
          refine (R_iald110 zf9_118 zk_122 rfl).trans ?_
          refine ite_congr rfl (fun c13_ => ?_) (fun _ => rfl)
          refine (R_icmp_lt (t := 133) zf9_119 rfl rfl).trans ?_
          refine ite_congr rfl (fun c14_ => ?_) (fun c14_ => ?_)
          · refine (R_aload_n zf9_133 rfl zlt_3 rfl).trans ?_
            refine (R_getR zf9_134 zo_9 zfl_6_18 zk1_3 zft_6_1 zmr_3_1 rfl).trans ?_
            refine (R_dup zf9_137 rfl rfl).trans ?_
            refine (R_getI zf9_138 zo_9 zfl_6_22 zk1_1 zft_10_2 rfl).trans ?_
            refine (R_iconst zf9_141 zw_1 rfl).trans ?_
            refine (R_isub zf9_142 rfl).trans ?_
            refine (R_putI zf9_143 zo_9 zfl_6_22 zk1_1 zft_10_2 rfl).trans ?_
            refine (R_iconst zf9_146 zw_0 rfl).trans ?_
            exact R_ireturn zf9_147 (by rw [zr_9]; rfl)
          · refine (R_iload zf9_122 rfl rfl).trans ?_
            refine (R_getsR zf9_124 zo_9 zgl_6_90 rfl).trans ?_
            refine (R_iload zf9_127 rfl rfl).trans ?_
            refine (R_iald110 zf9_129 zk_123 rfl).trans ?_
            refine ite_congr rfl (fun c15_ => ?_) (fun _ => rfl)
            refine (R_icmp_le (t := 148) zf9_130 rfl rfl).trans ?_
            refine ite_congr rfl (fun c16_ => ?_) (fun c16_ => ?_)
            · refine (R_aload_n zf9_148 rfl zlt_20 rfl).trans ?_
              refine (R_iload_n zf9_149 rfl rfl).trans ?_
              refine (R_iload zf9_150 rfl rfl).trans ?_
              refine (R_iadd zf9_152 rfl).trans ?_
              refine (R_iload_n zf9_153 rfl rfl).trans ?_
              refine (R_isub zf9_154 rfl).trans ?_
              refine (R_iload zf9_155 rfl rfl).trans ?_
              refine (R_iast zf9_157 zk_20 rfl).trans ?_
              refine ite_congr rfl (fun c17_ => ?_) (fun _ => rfl)
              refine (R_iinc (ls' := [.inr (.inr (.inl 3)), .inr (.inr (.inl 20)), .inl x0, .inl x1, .inl x2, .inl (iOr x3 (iShl 1 a5_)), .inl (wI (x4 + 1)), .inl a5_, .inl a11_]) zf9_158 rfl rfl rfl).trans ?_
              refine (R_goto (t := 19) zf9_161 rfl).trans ?_
              rfl
            · refine (R_aload_n zf9_133 rfl zlt_3 rfl).trans ?_
              refine (R_getR zf9_134 zo_9 zfl_6_18 zk1_3 zft_6_1 zmr_3_1 rfl).trans ?_
              refine (R_dup zf9_137 rfl rfl).trans ?_
              refine (R_getI zf9_138 zo_9 zfl_6_22 zk1_1 zft_10_2 rfl).trans ?_
              refine (R_iconst zf9_141 zw_1 rfl).trans ?_
              refine (R_isub zf9_142 rfl).trans ?_
              refine (R_putI zf9_143 zo_9 zfl_6_22 zk1_1 zft_10_2 rfl).trans ?_
              refine (R_iconst zf9_146 zw_0 rfl).trans ?_
              exact R_ireturn zf9_147 (by rw [zr_9]; rfl)
        · refine (R_iconst zf9_109 zw_0 rfl).trans ?_
          exact R_ireturn zf9_110 (by rw [zr_9]; rfl)
      · refine (R_iconst zf9_61 zw_0 rfl).trans ?_
        exact R_ireturn zf9_62 (by rw [zr_9]; rfl)
    · refine (R_iconst zf9_49 zw_1 rfl).trans ?_
      exact R_ireturn zf9_50 (by rw [zr_9]; rfl)
-- CannonPost$LeagueReader.itemOf(III)I at 0
theorem q10_0 (d : Nat) (x0 : Int) (x1 : Int) (x2 : Int) (h : MH) : Run (d + 1) 10 0 [.inl x0, .inl x1, .inl x2, vU] [] h = Run (d + 1) 10 2 [.inl x0, .inl x1, .inl x2, .inl x1] [] h := by
  refine (R_iload_n zf10_0 rfl rfl).trans ?_
  refine (R_istore_n (ls' := [.inl x0, .inl x1, .inl x2, .inl x1]) zf10_1 (Nat.le_of_ble_eq_true rfl) rfl rfl).trans ?_
  rfl
-- CannonPost$Tape.number(I)I at 0
theorem q16_0 (d : Nat) (x0 : Int) (h : MH) : Run d 16 0 [.inr (.inr (.inl 1)), .inl x0, vU, vU] [] h = Run d 16 4 [.inr (.inr (.inl 1)), .inl x0, .inl 0, .inl 0] [] h := by
  refine (R_iconst zf16_0 zw_0 rfl).trans ?_
  refine (R_istore_n (ls' := [.inr (.inr (.inl 1)), .inl x0, .inl 0, vU]) zf16_1 (Nat.le_of_ble_eq_true rfl) rfl rfl).trans ?_
  refine (R_iconst zf16_2 zw_0 rfl).trans ?_
  refine (R_istore_n (ls' := [.inr (.inr (.inl 1)), .inl x0, .inl 0, .inl 0]) zf16_3 (Nat.le_of_ble_eq_true rfl) rfl rfl).trans ?_
  rfl
-- CannonPost$League.firstFort(I)I at 0
theorem q19_0_1 (d : Nat) (x0 : Int) (h : MH) : Run d 19 0 [.inr (.inr (.inl 4)), .inl x0] [] h = (if 0 ≤ (wI ((wI (x0 * 3)) + 2)) ∧ (wI ((wI (x0 * 3)) + 2)) < 15 then some (some (.inl (h 21 (wI ((wI (x0 * 3)) + 2)).toNat)), h) else none) := by
  refine (R_aload_n zf19_0 rfl zlt_4 rfl).trans ?_
  refine (R_getR zf19_1 zo_19 zfl_5_18 zk1_4 zft_5_2 zmr_4_2 rfl).trans ?_
  refine (R_iload_n zf19_4 rfl rfl).trans ?_
  refine (R_iconst zf19_5 zw_3 rfl).trans ?_
  refine (R_imul zf19_6 rfl).trans ?_
  refine (R_iconst zf19_7 zw_2 rfl).trans ?_
  refine (R_iadd zf19_8 rfl).trans ?_
  refine (R_iald zf19_9 zk_21 rfl).trans ?_
  refine ite_congr rfl (fun c1_ => ?_) (fun _ => rfl)
  exact R_ireturn_i zf19_10 zr_19
-- CannonPost$League.hasFort(I)Z at 0
theorem q20_0_1 (d : Nat) (x0 : Int) (h : MH) : Run d 20 0 [.inr (.inr (.inl 4)), .inl x0] [] h = (if x0 < 0 then some (some (.inl 0), h) else (if (h 4 3) ≤ x0 then some (some (.inl 0), h) else some (some (.inl 1), h))) := by
  refine (R_iload_n zf20_0 rfl rfl).trans ?_
  refine (R_if_lt (t := 16) zf20_1 rfl rfl).trans ?_
  refine ite_congr rfl (fun c1_ => ?_) (fun c1_ => ?_)
  · refine (R_iconst zf20_16 zw_0 rfl).trans ?_
    exact R_ireturn zf20_17 (by rw [zr_20]; rfl)
  · refine (R_iload_n zf20_4 rfl rfl).trans ?_
    refine (R_aload_n zf20_5 rfl zlt_4 rfl).trans ?_
    refine (R_getI zf20_6 zo_20 zfl_5_27 zk1_4 zft_5_3 rfl).trans ?_
    refine (R_icmp_ge (t := 16) zf20_9 rfl rfl).trans ?_
    refine ite_congr rfl (fun c2_ => ?_) (fun c2_ => ?_)
    · refine (R_iconst zf20_16 zw_0 rfl).trans ?_
      exact R_ireturn zf20_17 (by rw [zr_20]; rfl)
    · refine (R_iconst zf20_12 zw_1 rfl).trans ?_
      refine (R_goto (t := 17) zf20_13 rfl).trans ?_
      exact R_ireturn zf20_17 (by rw [zr_20]; rfl)
-- CannonPost$League.place(I)I at 0
theorem q18_0_1 (d : Nat) (x0 : Int) (h : MH) : Run d 18 0 [.inr (.inr (.inl 4)), .inl x0] [] h = (if 0 ≤ (wI (x0 * 3)) ∧ (wI (x0 * 3)) < 24 then some (some (.inl (h 20 (wI (x0 * 3)).toNat)), h) else none) := by
  refine (R_aload_n zf18_0 rfl zlt_4 rfl).trans ?_
  refine (R_getR zf18_1 zo_18 zfl_5_15 zk1_4 zft_5_1 zmr_4_1 rfl).trans ?_
  refine (R_iload_n zf18_4 rfl rfl).trans ?_
  refine (R_iconst zf18_5 zw_3 rfl).trans ?_
  refine (R_imul zf18_6 rfl).trans ?_
  refine (R_iald zf18_7 zk_20 rfl).trans ?_
  refine ite_congr rfl (fun c1_ => ?_) (fun _ => rfl)
  exact R_ireturn_i zf18_8 zr_18
-- CannonPost$LawReader.readUnit(IZ)Z at 0
theorem q37_0 (d : Nat) (x0 : Int) (x1 : Int) (h : MH) : Run (d + 1) 37 0 [.inr (.inr (.inl 5)), .inl x0, .inl x1, vU, vU] [] h = (cI (Run d 8 0 [.inr (.inr (.inl 1))] [] h) fun a2_ h1_ => (if ¬ x1 = 0 then (if ¬ x1 = 0 then Run (d + 1) 37 116 [.inr (.inr (.inl 5)), .inl x0, .inl x1, .inl a2_, vU] [] h1_ else (cI (Run d 24 0 [.inr (.inr (.inl 5)), .inl x0, vU, vU, vU, vU] [] h1_) fun a6_ h5_ => (if ¬ a6_ = 0 then Run (d + 1) 37 116 [.inr (.inr (.inl 5)), .inl x0, .inl x1, .inl a2_, vU] [] h5_ else some (some (.inl 0), h5_)))) else (if a2_ = 33 then Run (d + 1) 37 24 [.inr (.inr (.inl 5)), .inl x0, .inl x1, .inl a2_, vU] [] h1_ else (if ¬ a2_ = 40 then (if ¬ x1 = 0 then Run (d + 1) 37 116 [.inr (.inr (.inl 5)), .inl x0, .inl x1, .inl a2_, vU] [] h1_ else (cI (Run d 24 0 [.inr (.inr (.inl 5)), .inl x0, vU, vU, vU, vU] [] h1_) fun a12_ h11_ => (if ¬ a12_ = 0 then Run (d + 1) 37 116 [.inr (.inr (.inl 5)), .inl x0, .inl x1, .inl a2_, vU] [] h11_ else some (some (.inl 0), h11_)))) else Run (d + 1) 37 24 [.inr (.inr (.inl 5)), .inl x0, .inl x1, .inl a2_, vU] [] h1_)))) := by
  refine (R_aload_n zf37_0 rfl zlt_5 rfl).trans ?_
  refine (R_getR zf37_1 zo_37 zfl_3_17 zk1_5 zft_3_2 zmr_5_2 rfl).trans ?_
  refine (R_vcallI zf37_4 zo_37 zvl_3_32 (by rw [zr_8]; rfl) zl_8 (Nat.le_of_ble_eq_true rfl) rfl rfl (Nat.le_of_ble_eq_true rfl) (Nat.le_of_ble_eq_true rfl) (es := [.inr (.inr (.inl 1))]) rfl rfl zk1_1 zo_8).trans ?_
  refine congrArg (cI _) (funext fun a2_ => funext fun h1_ => ?_)
  refine (R_istore_n (ls' := [.inr (.inr (.inl 5)), .inl x0, .inl x1, .inl a2_, vU]) zf37_7 (Nat.le_of_ble_eq_true rfl) rfl rfl).trans ?_
  refine (R_iload_n zf37_8 rfl rfl).trans ?_
  refine (R_if_ne (t := 102) zf37_9 rfl rfl).trans ?_
  refine ite_congr rfl (fun c3_ => ?_) (fun c3_ => ?_)
  · refine (R_iload_n zf37_102 rfl rfl).trans ?_
    refine (R_if_ne (t := 116) zf37_103 rfl rfl).trans ?_
    refine ite_congr rfl (fun c4_ => ?_) (fun c4_ => ?_)
    · rfl
    · refine (R_aload_n zf37_106 rfl zlt_5 rfl).trans ?_
      refine (R_iload_n zf37_107 rfl rfl).trans ?_
      refine (R_vcallI zf37_108 zo_37 zvl_3_40 (by rw [zr_24]; rfl) zl_24 (Nat.le_of_ble_eq_true rfl) rfl rfl (Nat.le_of_ble_eq_true rfl) (Nat.le_of_ble_eq_true rfl) (es := [.inr (.inr (.inl 5)), .inl x0, vU, vU, vU, vU]) rfl rfl zk1_5 zo_24).trans ?_
      refine congrArg (cI _) (funext fun a6_ => funext fun h5_ => ?_)
      refine (R_if_ne (t := 116) zf37_111 rfl rfl).trans ?_
      refine ite_congr rfl (fun c7_ => ?_) (fun c7_ => ?_)
      · rfl
      · refine (R_iconst zf37_114 zw_0 rfl).trans ?_
        exact R_ireturn zf37_115 (by rw [zr_37]; rfl)
  · refine (R_iload_n zf37_12 rfl rfl).trans ?_
    refine (R_bipush zf37_13 zb_33 rfl).trans ?_
    refine (R_icmp_eq (t := 24) zf37_15 rfl rfl).trans ?_
    refine ite_congr rfl (fun c8_ => ?_) (fun c8_ => ?_)
    · rfl
    · refine (R_iload_n zf37_18 rfl rfl).trans ?_
      refine (R_bipush zf37_19 zb_40 rfl).trans ?_
      refine (R_icmp_ne (t := 102) zf37_21 rfl rfl).trans ?_
      refine ite_congr rfl (fun c9_ => ?_) (fun c9_ => ?_)
      · refine (R_iload_n zf37_102 rfl rfl).trans ?_
        refine (R_if_ne (t := 116) zf37_103 rfl rfl).trans ?_
        refine ite_congr rfl (fun c10_ => ?_) (fun c10_ => ?_)
        · rfl
        · refine (R_aload_n zf37_106 rfl zlt_5 rfl).trans ?_
          refine (R_iload_n zf37_107 rfl rfl).trans ?_
          refine (R_vcallI zf37_108 zo_37 zvl_3_40 (by rw [zr_24]; rfl) zl_24 (Nat.le_of_ble_eq_true rfl) rfl rfl (Nat.le_of_ble_eq_true rfl) (Nat.le_of_ble_eq_true rfl) (es := [.inr (.inr (.inl 5)), .inl x0, vU, vU, vU, vU]) rfl rfl zk1_5 zo_24).trans ?_
          refine congrArg (cI _) (funext fun a12_ => funext fun h11_ => ?_)
          refine (R_if_ne (t := 116) zf37_111 rfl rfl).trans ?_
          refine ite_congr rfl (fun c13_ => ?_) (fun c13_ => ?_)
          · rfl
          · refine (R_iconst zf37_114 zw_0 rfl).trans ?_
            exact R_ireturn zf37_115 (by rw [zr_37]; rfl)
      · rfl
-- CannonPost$LawReader.readCondition(IZ)Z at 16
theorem q36_16 (d : Nat) (x0 : Int) (z1 : MV) (hz1 : cat z1 = 1) (x2 : Int) (x3 : Int) (z4 : MV) (hz4 : cat z4 = 1) (h : MH) : Run (d + 1) 36 16 [.inr (.inr (.inl 5)), .inl x0, z1, .inl x2, .inl x3, z4] [] h = (if 240 < x3 then (if x2 = 0 then some (some (.inl 1), h) else (cV (Run d 33 0 [.inr (.inr (.inl 5)), .inl 10, .inl 0] [] h) fun h3_ => some (some (.inl 1), h3_))) else (cI (Run d 21 0 [.inr (.inr (.inl 1)), .inl 124] [] h) fun a5_ h4_ => (if ¬ a5_ = 0 then Run (d + 1) 36 55 [.inr (.inr (.inl 5)), .inl x0, z1, .inl x2, .inl x3, .inl a5_] [] h4_ else (cI (Run d 21 0 [.inr (.inr (.inl 1)), .inl 38] [] h4_) fun a8_ h7_ => (if ¬ a8_ = 0 then Run (d + 1) 36 55 [.inr (.inr (.inl 5)), .inl x0, z1, .inl x2, .inl x3, .inl a5_] [] h7_ else (if x2 = 0 then some (some (.inl 1), h7_) else (cV (Run d 33 0 [.inr (.inr (.inl 5)), .inl 10, .inl 0] [] h7_) fun h11_ => some (some (.inl 1), h11_)))))))) := by
  refine (R_iload zf36_16 rfl rfl).trans ?_
  refine (R_sipush zf36_18 zs_240 rfl).trans ?_
  refine (R_icmp_gt (t := 115) zf36_21 rfl rfl).trans ?_
  refine ite_congr rfl (fun c1_ => ?_) (fun c1_ => ?_)
  · refine (R_iload_n zf36_115 rfl rfl).trans ?_
    refine (R_if_eq (t := 126) zf36_116 rfl rfl).trans ?_
    refine ite_congr rfl (fun c2_ => ?_) (fun c2_ => ?_)
    · refine (R_iconst zf36_126 zw_1 rfl).trans ?_
      exact R_ireturn zf36_127 (by rw [zr_36]; rfl)
    · refine (R_aload_n zf36_119 rfl zlt_5 rfl).trans ?_
      refine (R_bipush zf36_120 zb_10 rfl).trans ?_
      refine (R_iconst zf36_122 zw_0 rfl).trans ?_
      refine (R_vcallV zf36_123 zo_36 zvl_3_50 zr_33 zl_33 (Nat.le_of_ble_eq_true rfl) rfl rfl (Nat.le_of_ble_eq_true rfl) (Nat.le_of_ble_eq_true rfl) (es := [.inr (.inr (.inl 5)), .inl 10, .inl 0]) rfl rfl zk1_5 zo_33).trans ?_
      refine congrArg (cV _) (funext fun h3_ => ?_)
      refine (R_iconst zf36_126 zw_1 rfl).trans ?_
      exact R_ireturn zf36_127 (by rw [zr_36]; rfl)
  · refine (R_aload_n zf36_24 rfl zlt_5 rfl).trans ?_
    refine (R_getR zf36_25 zo_36 zfl_3_17 zk1_5 zft_3_2 zmr_5_2 rfl).trans ?_
    refine (R_bipush zf36_28 zb_124 rfl).trans ?_
    refine (R_vcallI zf36_30 zo_36 zvl_3_36 (by rw [zr_21]; rfl) zl_21 (Nat.le_of_ble_eq_true rfl) rfl rfl (Nat.le_of_ble_eq_true rfl) (Nat.le_of_ble_eq_true rfl) (es := [.inr (.inr (.inl 1)), .inl 124]) rfl rfl zk1_1 zo_21).trans ?_
    refine congrArg (cI _) (funext fun a5_ => funext fun h4_ => ?_)
    refine (R_istore (ls' := [.inr (.inr (.inl 5)), .inl x0, z1, .inl x2, .inl x3, .inl a5_]) zf36_33 (Nat.le_of_ble_eq_true rfl) rfl rfl).trans ?_
    refine (R_iload zf36_35 rfl rfl).trans ?_
    refine (R_if_ne (t := 55) zf36_37 rfl rfl).trans ?_
    refine ite_congr rfl (fun c6_ => ?_) (fun c6_ => ?_)
    · rfl
    · refine (R_aload_n zf36_40 rfl zlt_5 rfl).trans ?_
      refine (R_getR zf36_41 zo_36 zfl_3_17 zk1_5 zft_3_2 zmr_5_2 rfl).trans ?_
      refine (R_bipush zf36_44 zb_38 rfl).trans ?_
      refine (R_vcallI zf36_46 zo_36 zvl_3_36 (by rw [zr_21]; rfl) zl_21 (Nat.le_of_ble_eq_true rfl) rfl rfl (Nat.le_of_ble_eq_true rfl) (Nat.le_of_ble_eq_true rfl) (es := [.inr (.inr (.inl 1)), .inl 38]) rfl rfl zk1_1 zo_21).trans ?_
      refine congrArg (cI _) (funext fun a8_ => funext fun h7_ => ?_)
      refine (R_if_ne (t := 55) zf36_49 rfl rfl).trans ?_
      refine ite_congr rfl (fun c9_ => ?_) (fun c9_ => ?_)
      · rfl
      · refine (R_goto (t := 115) zf36_52 rfl).trans ?_
        refine (R_iload_n zf36_115 rfl rfl).trans ?_
        refine (R_if_eq (t := 126) zf36_116 rfl rfl).trans ?_
        refine ite_congr rfl (fun c10_ => ?_) (fun c10_ => ?_)
        · refine (R_iconst zf36_126 zw_1 rfl).trans ?_
          exact R_ireturn zf36_127 (by rw [zr_36]; rfl)
        · refine (R_aload_n zf36_119 rfl zlt_5 rfl).trans ?_
          refine (R_bipush zf36_120 zb_10 rfl).trans ?_
          refine (R_iconst zf36_122 zw_0 rfl).trans ?_
          refine (R_vcallV zf36_123 zo_36 zvl_3_50 zr_33 zl_33 (Nat.le_of_ble_eq_true rfl) rfl rfl (Nat.le_of_ble_eq_true rfl) (Nat.le_of_ble_eq_true rfl) (es := [.inr (.inr (.inl 5)), .inl 10, .inl 0]) rfl rfl zk1_5 zo_33).trans ?_
          refine congrArg (cV _) (funext fun h11_ => ?_)
          refine (R_iconst zf36_126 zw_1 rfl).trans ?_
          exact R_ireturn zf36_127 (by rw [zr_36]; rfl)
-- java/lang/String.indexOf(I)I at 0
theorem q26_0 (d : Nat) (x0 : Int) (h : MH) : Run (d + 1) 26 0 [.inr (.inr (.inl 125)), .inl x0] [] h = (cI (Run d 27 0 [.inr (.inr (.inl 125)), .inl x0, .inl 0] [] h) fun a2_ h1_ => some (some (.inl a2_), h1_)) := by
  refine (R_aload_n zf26_0 rfl zlt_125 rfl).trans ?_
  refine (R_iload_n zf26_1 rfl rfl).trans ?_
  refine (R_iconst zf26_2 zw_0 rfl).trans ?_
  refine (R_vcallI zf26_3 zo_26 zvl_13_633 (by rw [zr_27]; rfl) zl_27 (Nat.le_of_ble_eq_true rfl) rfl rfl (Nat.le_of_ble_eq_true rfl) (Nat.le_of_ble_eq_true rfl) (es := [.inr (.inr (.inl 125)), .inl x0, .inl 0]) rfl rfl zk1_125 zo_27).trans ?_
  refine congrArg (cI _) (funext fun a2_ => funext fun h1_ => ?_)
  exact R_ireturn_i zf26_6 zr_26
-- CannonPost$LawReader.readAtom(I)Z at 89
theorem q25_89 (d : Nat) (z0 : MV) (hz0 : cat z0 = 1) (z1 : MV) (hz1 : cat z1 = 1) (z2 : MV) (hz2 : cat z2 = 1) (z3 : MV) (hz3 : cat z3 = 1) (y4 : Int) (h : MH) : Run (d + 1) 25 89 [.inr (.inr (.inl 5)), z0, z1, z2, z3] [.inl y4] h = (if y4 < 0 then (cI (Run d 16 0 [.inr (.inr (.inl 1)), .inl 4, vU, vU] [] h) fun a3_ h2_ => (if ¬ a3_ = (-1) then (cV (Run d 33 0 [.inr (.inr (.inl 5)), .inl 0, .inl a3_] [] h2_) fun h5_ => some (some (.inl 1), h5_)) else some (some (.inl 0), h2_))) else (cV (Run d 33 0 [.inr (.inr (.inl 5)), .inl 1, .inl y4] [] (up h 1 2 (wI ((h 1 2) + 1)))) fun h6_ => some (some (.inl 1), h6_))) := by
  refine (R_istore_n (ls' := [.inr (.inr (.inl 5)), z0, z1, .inl y4, z3]) zf25_89 (Nat.le_of_ble_eq_true rfl) (st1_z rfl hz1 rfl) rfl).trans ?_
  refine (R_iload_n zf25_90 rfl rfl).trans ?_
  refine (R_if_lt (t := 115) zf25_91 rfl rfl).trans ?_
  refine ite_congr rfl (fun c1_ => ?_) (fun c1_ => ?_)
  · refine (R_aload_n zf25_115 rfl zlt_5 rfl).trans ?_
    refine (R_getR zf25_116 zo_25 zfl_3_17 zk1_5 zft_3_2 zmr_5_2 rfl).trans ?_
    refine (R_iconst zf25_119 zw_4 rfl).trans ?_
    refine (R_vcallI zf25_120 zo_25 zvl_3_74 (by rw [zr_16]; rfl) zl_16 (Nat.le_of_ble_eq_true rfl) rfl rfl (Nat.le_of_ble_eq_true rfl) (Nat.le_of_ble_eq_true rfl) (es := [.inr (.inr (.inl 1)), .inl 4, vU, vU]) rfl rfl zk1_1 zo_16).trans ?_
    refine congrArg (cI _) (funext fun a3_ => funext fun h2_ => ?_)
    refine (R_istore (ls' := [.inr (.inr (.inl 5)), z0, z1, .inl y4, .inl a3_]) zf25_123 (Nat.le_of_ble_eq_true rfl) rfl rfl).trans ?_
    refine (R_iload zf25_125 rfl rfl).trans ?_
    refine (R_iconst zf25_127 zw_m1 rfl).trans ?_
    refine (R_icmp_ne (t := 133) zf25_128 rfl rfl).trans ?_
    refine ite_congr rfl (fun c4_ => ?_) (fun c4_ => ?_)
    · refine (R_aload_n zf25_133 rfl zlt_5 rfl).trans ?_
      refine (R_iconst zf25_134 zw_0 rfl).trans ?_
      refine (R_iload zf25_135 rfl rfl).trans ?_
      refine (R_vcallV zf25_137 zo_25 zvl_3_50 zr_33 zl_33 (Nat.le_of_ble_eq_true rfl) rfl rfl (Nat.le_of_ble_eq_true rfl) (Nat.le_of_ble_eq_true rfl) (es := [.inr (.inr (.inl 5)), .inl 0, .inl a3_]) rfl rfl zk1_5 zo_33).trans ?_
      refine congrArg (cV _) (funext fun h5_ => ?_)
      refine (R_iconst zf25_140 zw_1 rfl).trans ?_
      exact R_ireturn zf25_141 (by rw [zr_25]; rfl)
    · refine (R_iconst zf25_131 zw_0 rfl).trans ?_
      exact R_ireturn zf25_132 (by rw [zr_25]; rfl)
  · refine (R_aload_n zf25_94 rfl zlt_5 rfl).trans ?_
    refine (R_getR zf25_95 zo_25 zfl_3_17 zk1_5 zft_3_2 zmr_5_2 rfl).trans ?_
    refine (R_dup zf25_98 rfl rfl).trans ?_
    refine (R_getI zf25_99 zo_25 zfl_3_21 zk1_1 zft_10_2 rfl).trans ?_
    refine (R_iconst zf25_102 zw_1 rfl).trans ?_
    refine (R_iadd zf25_103 rfl).trans ?_
    refine (R_putI zf25_104 zo_25 zfl_3_21 zk1_1 zft_10_2 rfl).trans ?_
    refine (R_aload_n zf25_107 rfl zlt_5 rfl).trans ?_
    refine (R_iconst zf25_108 zw_1 rfl).trans ?_
    refine (R_iload_n zf25_109 rfl rfl).trans ?_
    refine (R_vcallV zf25_110 zo_25 zvl_3_50 zr_33 zl_33 (Nat.le_of_ble_eq_true rfl) rfl rfl (Nat.le_of_ble_eq_true rfl) (Nat.le_of_ble_eq_true rfl) (es := [.inr (.inr (.inl 5)), .inl 1, .inl y4]) rfl rfl zk1_5 zo_33).trans ?_
    refine congrArg (cV _) (funext fun h6_ => ?_)
    refine (R_iconst zf25_113 zw_1 rfl).trans ?_
    exact R_ireturn zf25_114 (by rw [zr_25]; rfl)
-- CannonPost$LawReader.joining(I)I at 0
theorem q34_0 (d : Nat) (x0 : Int) (h : MH) : Run d 34 0 [.inl x0] [] h = (if x0 = 42 then some (some (.inl 4), h) else (if x0 = 43 then some (some (.inl 2), h) else (if x0 = 45 then some (some (.inl 3), h) else (if x0 = 47 then some (some (.inl 5), h) else some (some (.inl (-1)), h))))) := by
  refine (R_iload_n zf34_0 rfl rfl).trans ?_
  refine (switch_if (c := x0 = 42) (fun c1_ => ?_) (fun c1_ => ?_))
  · refine (R_tsw (t := 44) zf34_1 (by omega) (by rw [c1_]; rfl) rfl).trans ?_
    refine (R_iconst zf34_44 zw_4 rfl).trans ?_
    exact R_ireturn_i zf34_45 zr_34
  refine (switch_if (c := x0 = 43) (fun c2_ => ?_) (fun c2_ => ?_))
  · refine (R_tsw (t := 40) zf34_1 (by omega) (by rw [c2_]; rfl) rfl).trans ?_
    refine (R_iconst zf34_40 zw_2 rfl).trans ?_
    exact R_ireturn_i zf34_41 zr_34
  refine (switch_if (c := x0 = 45) (fun c3_ => ?_) (fun c3_ => ?_))
  · refine (R_tsw (t := 42) zf34_1 (by omega) (by rw [c3_]; rfl) rfl).trans ?_
    refine (R_iconst zf34_42 zw_3 rfl).trans ?_
    exact R_ireturn_i zf34_43 zr_34
  refine (switch_if (c := x0 = 47) (fun c4_ => ?_) (fun c4_ => ?_))
  · refine (R_tsw (t := 46) zf34_1 (by omega) (by rw [c4_]; rfl) rfl).trans ?_
    refine (R_iconst zf34_46 zw_5 rfl).trans ?_
    exact R_ireturn_i zf34_47 zr_34
  have c5_ : (x0 < 42 ∨ 47 < x0) ∨ (x0 = 44 ∨ x0 = 46) := by omega
  refine (Eq.trans (b := Run d 34 48 [.inl x0] [] h) (by rcases c5_ with z | z | z; exact R_tswD (t := 48) zf34_1 z rfl; exact R_tsw (t := 48) zf34_1 (by omega) (by rw [z]; rfl) rfl; exact R_tsw (t := 48) zf34_1 (by omega) (by rw [z]; rfl) rfl) ?_)
  refine (R_iconst zf34_48 zw_m1 rfl).trans ?_
  exact R_ireturn_i zf34_49 zr_34
-- CannonPost$LawReader.readSum(I)Z at 90
theorem q24_90 (d : Nat) (x0 : Int) (x1 : Int) (x2 : Int) (x3 : Int) (x4 : Int) (h : MH) : Run (d + 1) 24 90 [.inr (.inr (.inl 5)), .inl x0, .inl x1, .inl x2, .inl x3, .inl x4] [] h = (cI (Run d 25 0 [.inr (.inr (.inl 5)), .inl x0, vU, vU, vU] [] h) fun a2_ h1_ => (if ¬ a2_ = 0 then (if x4 = 0 then (cV (Run d 33 0 [.inr (.inr (.inl 5)), .inl x3, .inl 0] [] h1_) fun h5_ => Run (d + 1) 24 14 [.inr (.inr (.inl 5)), .inl x0, .inl x1, .inl (wI (x2 + 1)), .inl x3, .inl x4] [] h5_) else Run (d + 1) 24 14 [.inr (.inr (.inl 5)), .inl x0, .inl x3, .inl (wI (x2 + 1)), .inl x3, .inl x4] [] h1_) else some (some (.inl 0), h1_))) := by
  refine (R_aload_n zf24_90 rfl zlt_5 rfl).trans ?_
  refine (R_iload_n zf24_91 rfl rfl).trans ?_
  refine (R_vcallI zf24_92 zo_24 zvl_3_61 (by rw [zr_25]; rfl) zl_25 (Nat.le_of_ble_eq_true rfl) rfl rfl (Nat.le_of_ble_eq_true rfl) (Nat.le_of_ble_eq_true rfl) (es := [.inr (.inr (.inl 5)), .inl x0, vU, vU, vU]) rfl rfl zk1_5 zo_25).trans ?_
  refine congrArg (cI _) (funext fun a2_ => funext fun h1_ => ?_)
  refine (R_if_ne (t := 100) zf24_95 rfl rfl).trans ?_
  refine ite_congr rfl (fun c3_ => ?_) (fun c3_ => ?_)
  · refine (R_iload zf24_100 rfl rfl).trans ?_
    refine (R_if_eq (t := 111) zf24_102 rfl rfl).trans ?_
    refine ite_congr rfl (fun c4_ => ?_) (fun c4_ => ?_)
    · refine (R_aload_n zf24_111 rfl zlt_5 rfl).trans ?_
      refine (R_iload zf24_112 rfl rfl).trans ?_
      refine (R_iconst zf24_114 zw_0 rfl).trans ?_
      refine (R_vcallV zf24_115 zo_24 zvl_3_50 zr_33 zl_33 (Nat.le_of_ble_eq_true rfl) rfl rfl (Nat.le_of_ble_eq_true rfl) (Nat.le_of_ble_eq_true rfl) (es := [.inr (.inr (.inl 5)), .inl x3, .inl 0]) rfl rfl zk1_5 zo_33).trans ?_
      refine congrArg (cV _) (funext fun h5_ => ?_)
      refine (R_iinc (ls' := [.inr (.inr (.inl 5)), .inl x0, .inl x1, .inl (wI (x2 + 1)), .inl x3, .inl x4]) zf24_118 rfl rfl rfl).trans ?_
      refine (R_goto (t := 14) zf24_121 rfl).trans ?_
      rfl
    · refine (R_iload zf24_105 rfl rfl).trans ?_
      refine (R_istore_n (ls' := [.inr (.inr (.inl 5)), .inl x0, .inl x3, .inl x2, .inl x3, .inl x4]) zf24_107 (Nat.le_of_ble_eq_true rfl) rfl rfl).trans ?_
      refine (R_goto (t := 118) zf24_108 rfl).trans ?_
      refine (R_iinc (ls' := [.inr (.inr (.inl 5)), .inl x0, .inl x3, .inl (wI (x2 + 1)), .inl x3, .inl x4]) zf24_118 rfl rfl rfl).trans ?_
      refine (R_goto (t := 14) zf24_121 rfl).trans ?_
      rfl
  · refine (R_iconst zf24_98 zw_0 rfl).trans ?_
    exact R_ireturn zf24_99 (by rw [zr_24]; rfl)
-- CannonPost$State.land(III)V at 53
theorem q88_53_1 (d : Nat) (x0 : Int) (x1 : Int) (x2 : Int) (h : MH) : Run d 88 53 [.inr (.inr (.inl 13)), .inl x0, .inl x1, .inl x2] [] h = (if 0 ≤ (wI (6 + x0)) ∧ (wI (6 + x0)) < 37 then (if 0 ≤ (wI (29 + x1)) ∧ (wI (29 + x1)) < 37 then (if 0 ≤ (wI (29 + x1)) ∧ (wI (29 + x1)) < 37 then some (none, (up (up h 93 (wI (6 + x0)).toNat x1) 93 (wI (29 + x1)).toNat (iOr ((up h 93 (wI (6 + x0)).toNat x1) 93 (wI (29 + x1)).toNat) x2))) else none) else none) else none) := by
  refine (R_aload_n zf88_53 rfl zlt_13 rfl).trans ?_
  refine (R_getR zf88_54 zo_88 zfl_9_15 zk1_13 zft_9_0 zmr_13_0 rfl).trans ?_
  refine (R_bipush zf88_57 zb_6 rfl).trans ?_
  refine (R_iload_n zf88_59 rfl rfl).trans ?_
  refine (R_iadd zf88_60 rfl).trans ?_
  refine (R_iload_n zf88_61 rfl rfl).trans ?_
  refine (R_iast zf88_62 zk_93 rfl).trans ?_
  refine ite_congr rfl (fun c1_ => ?_) (fun _ => rfl)
  refine (R_aload_n zf88_63 rfl zlt_13 rfl).trans ?_
  refine (R_getR zf88_64 zo_88 zfl_9_15 zk1_13 zft_9_0 zmr_13_0 rfl).trans ?_
  refine (R_bipush zf88_67 zb_29 rfl).trans ?_
  refine (R_iload_n zf88_69 rfl rfl).trans ?_
  refine (R_iadd zf88_70 rfl).trans ?_
  refine (R_dup2 zf88_71 rfl rfl rfl).trans ?_
  refine (R_iald zf88_72 zk_93 rfl).trans ?_
  refine ite_congr rfl (fun c2_ => ?_) (fun _ => rfl)
  refine (R_iload_n zf88_73 rfl rfl).trans ?_
  refine (R_ior zf88_74 rfl).trans ?_
  refine (R_iast zf88_75 zk_93 rfl).trans ?_
  refine ite_congr rfl (fun c3_ => ?_) (fun _ => rfl)
  exact R_return zf88_76 zr_88
-- CannonPost$State.passHour(I)V at 60
theorem q100_60_1 (d : Nat) (x0 : Int) (x1 : Int) (h : MH) : Run d 100 60 [.inr (.inr (.inl 13)), .inl x0, .inl x1] [] h = (if x0 ≤ x1 then some (none, h) else (if 0 ≤ (wI (21 + x1)) ∧ (wI (21 + x1)) < 37 then (if 0 ≤ (wI (21 + x1)) ∧ (wI (21 + x1)) < 37 then Run d 100 60 [.inr (.inr (.inl 13)), .inl x0, .inl (wI (x1 + 1))] [] (up h 93 (wI (21 + x1)).toNat (mn 9 (wI ((h 93 (wI (21 + x1)).toNat) + 1)))) else none) else none)) := by
  refine (R_iload_n zf100_60 rfl rfl).trans ?_
  refine (R_iload_n zf100_61 rfl rfl).trans ?_
  refine (R_icmp_ge (t := 96) zf100_62 rfl rfl).trans ?_
  refine ite_congr rfl (fun c1_ => ?_) (fun c1_ => ?_)
  · exact R_return zf100_96 zr_100
  · refine (R_aload_n zf100_65 rfl zlt_13 rfl).trans ?_
    refine (R_getR zf100_66 zo_100 zfl_9_15 zk1_13 zft_9_0 zmr_13_0 rfl).trans ?_
    refine (R_bipush zf100_69 zb_21 rfl).trans ?_
    refine (R_iload_n zf100_71 rfl rfl).trans ?_
    refine (R_iadd zf100_72 rfl).trans ?_
    refine (R_bipush zf100_73 zb_9 rfl).trans ?_
    refine (R_aload_n zf100_75 rfl zlt_13 rfl).trans ?_
    refine (R_getR zf100_76 zo_100 zfl_9_15 zk1_13 zft_9_0 zmr_13_0 rfl).trans ?_
    refine (R_bipush zf100_79 zb_21 rfl).trans ?_
    refine (R_iload_n zf100_81 rfl rfl).trans ?_
    refine (R_iadd zf100_82 rfl).trans ?_
    refine (R_iald zf100_83 zk_93 rfl).trans ?_
    refine ite_congr rfl (fun c2_ => ?_) (fun _ => rfl)
    refine (R_iconst zf100_84 zw_1 rfl).trans ?_
    refine (R_iadd zf100_85 rfl).trans ?_
    refine (R_mmin zf100_86 zo_100 zsl_9_64 zml_9_64 zna_9_64 (Nat.le_of_ble_eq_true rfl) rfl).trans ?_
    refine (R_iast zf100_89 zk_93 rfl).trans ?_
    refine ite_congr rfl (fun c3_ => ?_) (fun _ => rfl)
    refine (R_iinc (ls' := [.inr (.inr (.inl 13)), .inl x0, .inl (wI (x1 + 1))]) zf100_90 rfl rfl rfl).trans ?_
    refine (R_goto (t := 60) zf100_93 rfl).trans ?_
    rfl
-- CannonPost$Lawbook.joined(III)I at 0
theorem q85_0 (d : Nat) (x0 : Int) (x1 : Int) (x2 : Int) (h : MH) : Run d 85 0 [.inl x0, .inl x1, .inl x2, vU, vU] [] h = (if x0 = 2 then Run d 85 151 [.inl x0, .inl x1, .inl x2, .inr (.inl (wI (x1 + x2))), vU] [] h else (if x0 = 3 then Run d 85 151 [.inl x0, .inl x1, .inl x2, .inr (.inl (wI (x1 - x2))), vU] [] h else (if x0 = 4 then Run d 85 151 [.inl x0, .inl x1, .inl x2, .inr (.inl (wL (x1 * x2))), vU] [] h else (if x0 = 5 then (if ¬ x2 = 0 then (if x2 = 0 then none else Run d 85 151 [.inl x0, .inl x1, .inl x2, .inr (.inl (wI (x1.tdiv x2))), vU] [] h) else Run d 85 151 [.inl x0, .inl x1, .inl x2, .inr (.inl 0), vU] [] h) else (if x0 = 6 then (if ¬ x1 = x2 then Run d 85 151 [.inl x0, .inl x1, .inl x2, .inr (.inl 0), vU] [] h else Run d 85 151 [.inl x0, .inl x1, .inl x2, .inr (.inl 1), vU] [] h) else (if x0 = 7 then (if x2 ≤ x1 then Run d 85 151 [.inl x0, .inl x1, .inl x2, .inr (.inl 0), vU] [] h else Run d 85 151 [.inl x0, .inl x1, .inl x2, .inr (.inl 1), vU] [] h) else (if x0 = 8 then (if x1 ≤ x2 then Run d 85 151 [.inl x0, .inl x1, .inl x2, .inr (.inl 0), vU] [] h else Run d 85 151 [.inl x0, .inl x1, .inl x2, .inr (.inl 1), vU] [] h) else (if x0 = 9 then Run d 85 151 [.inl x0, .inl x1, .inl x2, .inr (.inl (iAnd x1 x2)), vU] [] h else (if x0 = 10 then Run d 85 151 [.inl x0, .inl x1, .inl x2, .inr (.inl (iOr x1 x2)), vU] [] h else Run d 85 151 [.inl x0, .inl x1, .inl x2, .inr (.inl 0), vU] [] h))))))))) := by
  refine (R_lconst (v := 0) zf85_0 rfl rfl).trans ?_
  refine (R_lstore_n (ls' := [.inl x0, .inl x1, .inl x2, .inr (.inl 0), vU]) zf85_1 (Nat.le_of_ble_eq_true rfl) rfl rfl).trans ?_
  refine (R_iload_n zf85_2 rfl rfl).trans ?_
  refine (switch_if (c := x0 = 2) (fun c1_ => ?_) (fun c1_ => ?_))
  · refine (R_tsw (t := 52) zf85_3 (by omega) (by rw [c1_]; rfl) rfl).trans ?_
    refine (R_iload_n zf85_52 rfl rfl).trans ?_
    refine (R_iload_n zf85_53 rfl rfl).trans ?_
    refine (R_iadd zf85_54 rfl).trans ?_
    refine (R_i2l zf85_55 rfl).trans ?_
    refine (R_lstore_n (ls' := [.inl x0, .inl x1, .inl x2, .inr (.inl (wI (x1 + x2))), vU]) zf85_56 (Nat.le_of_ble_eq_true rfl) rfl rfl).trans ?_
    refine (R_goto (t := 151) zf85_57 rfl).trans ?_
    rfl
  refine (switch_if (c := x0 = 3) (fun c2_ => ?_) (fun c2_ => ?_))
  · refine (R_tsw (t := 60) zf85_3 (by omega) (by rw [c2_]; rfl) rfl).trans ?_
    refine (R_iload_n zf85_60 rfl rfl).trans ?_
    refine (R_iload_n zf85_61 rfl rfl).trans ?_
    refine (R_isub zf85_62 rfl).trans ?_
    refine (R_i2l zf85_63 rfl).trans ?_
    refine (R_lstore_n (ls' := [.inl x0, .inl x1, .inl x2, .inr (.inl (wI (x1 - x2))), vU]) zf85_64 (Nat.le_of_ble_eq_true rfl) rfl rfl).trans ?_
    refine (R_goto (t := 151) zf85_65 rfl).trans ?_
    rfl
  refine (switch_if (c := x0 = 4) (fun c3_ => ?_) (fun c3_ => ?_))
  · refine (R_tsw (t := 68) zf85_3 (by omega) (by rw [c3_]; rfl) rfl).trans ?_
    refine (R_iload_n zf85_68 rfl rfl).trans ?_
    refine (R_i2l zf85_69 rfl).trans ?_
    refine (R_iload_n zf85_70 rfl rfl).trans ?_
    refine (R_i2l zf85_71 rfl).trans ?_
    refine (R_lmul zf85_72 rfl).trans ?_
    refine (R_lstore_n (ls' := [.inl x0, .inl x1, .inl x2, .inr (.inl (wL (x1 * x2))), vU]) zf85_73 (Nat.le_of_ble_eq_true rfl) rfl rfl).trans ?_
    refine (R_goto (t := 151) zf85_74 rfl).trans ?_
    rfl
  refine (switch_if (c := x0 = 5) (fun c4_ => ?_) (fun c4_ => ?_))
  · refine (R_tsw (t := 77) zf85_3 (by omega) (by rw [c4_]; rfl) rfl).trans ?_
    refine (R_iload_n zf85_77 rfl rfl).trans ?_
    refine (R_if_ne (t := 85) zf85_78 rfl rfl).trans ?_
    refine ite_congr rfl (fun c5_ => ?_) (fun c5_ => ?_)
    · refine (R_iload_n zf85_85 rfl rfl).trans ?_
      refine (R_iload_n zf85_86 rfl rfl).trans ?_
      refine (R_idiv0 zf85_87 rfl).trans ?_
      refine ite_congr rfl (fun _ => rfl) (fun _ => ?_)
      refine (R_i2l zf85_88 rfl).trans ?_
      refine (R_lstore_n (ls' := [.inl x0, .inl x1, .inl x2, .inr (.inl (wI (x1.tdiv x2))), vU]) zf85_89 (Nat.le_of_ble_eq_true rfl) rfl rfl).trans ?_
      refine (R_goto (t := 151) zf85_90 rfl).trans ?_
      rfl
    · refine (R_lconst (v := 0) zf85_81 rfl rfl).trans ?_
      refine (R_goto (t := 89) zf85_82 rfl).trans ?_
      refine (R_lstore_n (ls' := [.inl x0, .inl x1, .inl x2, .inr (.inl 0), vU]) zf85_89 (Nat.le_of_ble_eq_true rfl) rfl rfl).trans ?_
      refine (R_goto (t := 151) zf85_90 rfl).trans ?_
      rfl
  refine (switch_if (c := x0 = 6) (fun c6_ => ?_) (fun c6_ => ?_))
  · refine (R_tsw (t := 93) zf85_3 (by omega) (by rw [c6_]; rfl) rfl).trans ?_
    refine (R_iload_n zf85_93 rfl rfl).trans ?_
    refine (R_iload_n zf85_94 rfl rfl).trans ?_
    refine (R_icmp_ne (t := 102) zf85_95 rfl rfl).trans ?_
    refine ite_congr rfl (fun c7_ => ?_) (fun c7_ => ?_)
    · refine (R_lconst (v := 0) zf85_102 rfl rfl).trans ?_
      refine (R_lstore_n (ls' := [.inl x0, .inl x1, .inl x2, .inr (.inl 0), vU]) zf85_103 (Nat.le_of_ble_eq_true rfl) rfl rfl).trans ?_
      refine (R_goto (t := 151) zf85_104 rfl).trans ?_
      rfl
    · refine (R_lconst (v := 1) zf85_98 rfl rfl).trans ?_
      refine (R_goto (t := 103) zf85_99 rfl).trans ?_
      refine (R_lstore_n (ls' := [.inl x0, .inl x1, .inl x2, .inr (.inl 1), vU]) zf85_103 (Nat.le_of_ble_eq_true rfl) rfl rfl).trans ?_
      refine (R_goto (t := 151) zf85_104 rfl).trans ?_
      rfl
  refine (switch_if (c := x0 = 7) (fun c8_ => ?_) (fun c8_ => ?_))
  · refine (R_tsw (t := 107) zf85_3 (by omega) (by rw [c8_]; rfl) rfl).trans ?_
    refine (R_iload_n zf85_107 rfl rfl).trans ?_
    refine (R_iload_n zf85_108 rfl rfl).trans ?_
    refine (R_icmp_ge (t := 116) zf85_109 rfl rfl).trans ?_
    refine ite_congr rfl (fun c9_ => ?_) (fun c9_ => ?_)
    · refine (R_lconst (v := 0) zf85_116 rfl rfl).trans ?_
      refine (R_lstore_n (ls' := [.inl x0, .inl x1, .inl x2, .inr (.inl 0), vU]) zf85_117 (Nat.le_of_ble_eq_true rfl) rfl rfl).trans ?_
      refine (R_goto (t := 151) zf85_118 rfl).trans ?_
      rfl
    · refine (R_lconst (v := 1) zf85_112 rfl rfl).trans ?_
      refine (R_goto (t := 117) zf85_113 rfl).trans ?_
      refine (R_lstore_n (ls' := [.inl x0, .inl x1, .inl x2, .inr (.inl 1), vU]) zf85_117 (Nat.le_of_ble_eq_true rfl) rfl rfl).trans ?_
      refine (R_goto (t := 151) zf85_118 rfl).trans ?_
      rfl
  refine (switch_if (c := x0 = 8) (fun c10_ => ?_) (fun c10_ => ?_))
  · refine (R_tsw (t := 121) zf85_3 (by omega) (by rw [c10_]; rfl) rfl).trans ?_
    refine (R_iload_n zf85_121 rfl rfl).trans ?_
    refine (R_iload_n zf85_122 rfl rfl).trans ?_
    refine (R_icmp_le (t := 130) zf85_123 rfl rfl).trans ?_
    refine ite_congr rfl (fun c11_ => ?_) (fun c11_ => ?_)
    · refine (R_lconst (v := 0) zf85_130 rfl rfl).trans ?_
      refine (R_lstore_n (ls' := [.inl x0, .inl x1, .inl x2, .inr (.inl 0), vU]) zf85_131 (Nat.le_of_ble_eq_true rfl) rfl rfl).trans ?_
      refine (R_goto (t := 151) zf85_132 rfl).trans ?_
      rfl
    · refine (R_lconst (v := 1) zf85_126 rfl rfl).trans ?_
      refine (R_goto (t := 131) zf85_127 rfl).trans ?_
      refine (R_lstore_n (ls' := [.inl x0, .inl x1, .inl x2, .inr (.inl 1), vU]) zf85_131 (Nat.le_of_ble_eq_true rfl) rfl rfl).trans ?_
      refine (R_goto (t := 151) zf85_132 rfl).trans ?_
      rfl
  refine (switch_if (c := x0 = 9) (fun c12_ => ?_) (fun c12_ => ?_))
  · refine (R_tsw (t := 135) zf85_3 (by omega) (by rw [c12_]; rfl) rfl).trans ?_
    refine (R_iload_n zf85_135 rfl rfl).trans ?_
    refine (R_iload_n zf85_136 rfl rfl).trans ?_
    refine (R_iand zf85_137 rfl).trans ?_
    refine (R_i2l zf85_138 rfl).trans ?_
    refine (R_lstore_n (ls' := [.inl x0, .inl x1, .inl x2, .inr (.inl (iAnd x1 x2)), vU]) zf85_139 (Nat.le_of_ble_eq_true rfl) rfl rfl).trans ?_
    refine (R_goto (t := 151) zf85_140 rfl).trans ?_
    rfl
  refine (switch_if (c := x0 = 10) (fun c13_ => ?_) (fun c13_ => ?_))
  · refine (R_tsw (t := 143) zf85_3 (by omega) (by rw [c13_]; rfl) rfl).trans ?_
    refine (R_iload_n zf85_143 rfl rfl).trans ?_
    refine (R_iload_n zf85_144 rfl rfl).trans ?_
    refine (R_ior zf85_145 rfl).trans ?_
    refine (R_i2l zf85_146 rfl).trans ?_
    refine (R_lstore_n (ls' := [.inl x0, .inl x1, .inl x2, .inr (.inl (iOr x1 x2)), vU]) zf85_147 (Nat.le_of_ble_eq_true rfl) rfl rfl).trans ?_
    refine (R_goto (t := 151) zf85_148 rfl).trans ?_
    rfl
  refine (R_tswD (t := 151) zf85_3 (by omega) rfl).trans ?_
  rfl
-- CannonPost$Paths.offer(IIII)V at 0
theorem q129_0 (d : Nat) (x0 : Int) (x1 : Int) (x2 : Int) (x3 : Int) (h : MH) : Run d 129 0 [.inr (.inr (.inl 9)), .inl x0, .inl x1, .inl x2, .inl x3, vU] [] h = (if 0 ≤ x0 ∧ x0 < 8 then (if (h 40 x0.toNat) = (-1) then Run d 129 46 [.inr (.inr (.inl 9)), .inl x0, .inl x1, .inl x2, .inl x3, vU] [.inl 1] h else (if 0 ≤ x0 ∧ x0 < 8 then (if x2 < (h 41 x0.toNat) then Run d 129 46 [.inr (.inr (.inl 9)), .inl x0, .inl x1, .inl x2, .inl x3, vU] [.inl 1] h else (if 0 ≤ x0 ∧ x0 < 8 then (if ¬ x2 = (h 41 x0.toNat) then Run d 129 46 [.inr (.inr (.inl 9)), .inl x0, .inl x1, .inl x2, .inl x3, vU] [.inl 0] h else (if 0 ≤ x0 ∧ x0 < 8 then (if (h 42 x0.toNat) ≤ x3 then Run d 129 46 [.inr (.inr (.inl 9)), .inl x0, .inl x1, .inl x2, .inl x3, vU] [.inl 0] h else Run d 129 46 [.inr (.inr (.inl 9)), .inl x0, .inl x1, .inl x2, .inl x3, vU] [.inl 1] h) else none)) else none)) else none)) else none) := by
  refine (R_aload_n zf129_0 rfl zlt_9 rfl).trans ?_
  refine (R_getR zf129_1 zo_129 zfl_7_11 zk1_9 zft_7_0 zmr_9_0 rfl).trans ?_
  refine (R_iload_n zf129_4 rfl rfl).trans ?_
  refine (R_iald zf129_5 zk_40 rfl).trans ?_
  refine ite_congr rfl (fun c1_ => ?_) (fun _ => rfl)
  refine (R_iconst zf129_6 zw_m1 rfl).trans ?_
  refine (R_icmp_eq (t := 41) zf129_7 rfl rfl).trans ?_
  refine ite_congr rfl (fun c2_ => ?_) (fun c2_ => ?_)
  · refine (R_iconst zf129_41 zw_1 rfl).trans ?_
    refine (R_goto (t := 46) zf129_42 rfl).trans ?_
    rfl
  · refine (R_iload_n zf129_10 rfl rfl).trans ?_
    refine (R_aload_n zf129_11 rfl zlt_9 rfl).trans ?_
    refine (R_getR zf129_12 zo_129 zfl_7_17 zk1_9 zft_7_1 zmr_9_1 rfl).trans ?_
    refine (R_iload_n zf129_15 rfl rfl).trans ?_
    refine (R_iald zf129_16 zk_41 rfl).trans ?_
    refine ite_congr rfl (fun c3_ => ?_) (fun _ => rfl)
    refine (R_icmp_lt (t := 41) zf129_17 rfl rfl).trans ?_
    refine ite_congr rfl (fun c4_ => ?_) (fun c4_ => ?_)
    · refine (R_iconst zf129_41 zw_1 rfl).trans ?_
      refine (R_goto (t := 46) zf129_42 rfl).trans ?_
      rfl
    · refine (R_iload_n zf129_20 rfl rfl).trans ?_
      refine (R_aload_n zf129_21 rfl zlt_9 rfl).trans ?_
      refine (R_getR zf129_22 zo_129 zfl_7_17 zk1_9 zft_7_1 zmr_9_1 rfl).trans ?_
      refine (R_iload_n zf129_25 rfl rfl).trans ?_
      refine (R_iald zf129_26 zk_41 rfl).trans ?_
      refine ite_congr rfl (fun c5_ => ?_) (fun _ => rfl)
      refine (R_icmp_ne (t := 45) zf129_27 rfl rfl).trans ?_
      refine ite_congr rfl (fun c6_ => ?_) (fun c6_ => ?_)
      · refine (R_iconst zf129_45 zw_0 rfl).trans ?_
        rfl
      · refine (R_iload zf129_30 rfl rfl).trans ?_
        refine (R_aload_n zf129_32 rfl zlt_9 rfl).trans ?_
        refine (R_getR zf129_33 zo_129 zfl_7_20 zk1_9 zft_7_2 zmr_9_2 rfl).trans ?_
        refine (R_iload_n zf129_36 rfl rfl).trans ?_
        refine (R_iald zf129_37 zk_42 rfl).trans ?_
        refine ite_congr rfl (fun c7_ => ?_) (fun _ => rfl)
        refine (R_icmp_ge (t := 45) zf129_38 rfl rfl).trans ?_
        refine ite_congr rfl (fun c8_ => ?_) (fun c8_ => ?_)
        · refine (R_iconst zf129_45 zw_0 rfl).trans ?_
          rfl
        · refine (R_iconst zf129_41 zw_1 rfl).trans ?_
          refine (R_goto (t := 46) zf129_42 rfl).trans ?_
          rfl
-- CannonPost$Paths.leads(LCannonPost$State;IIII)Z at 43
theorem q134_43 (d : Nat) (z0 : MV) (hz0 : cat z0 = 1) (x1 : Int) (z2 : MV) (hz2 : cat z2 = 1) (x3 : Int) (x4 : Int) (x5 : Int) (x6 : Int) (z7 : MV) (hz7 : cat z7 = 1) (z8 : MV) (hz8 : cat z8 = 1) (y9 : Int) (h : MH) : Run (d + 1) 134 43 [.inr (.inr (.inl 9)), .inr (.inr (.inl 12)), z0, .inl x1, z2, .inl x3, .inl x4, .inl x5, .inl x6, z7, z8] [.inl y9] h = (if 1 < x1 then (if 0 ≤ x4 ∧ x4 < 5 then (cI (Run d 133 0 [.inr (.inr (.inl 9)), .inr (.inr (.inl 12)), .inl (wI (x1 - 1)), .inl y9, .inl x3, vU, vU, vU, vU] [] (up h 44 x4.toNat x5)) fun a4_ h3_ => (if a4_ = (-1) then (if 0 ≤ x4 ∧ x4 < 5 then some (some (.inl 0), (up h3_ 44 x4.toNat x6)) else none) else (if 0 ≤ x4 ∧ x4 < 5 then some (some (.inl 1), (up h3_ 44 x4.toNat x6)) else none))) else none) else (if (iAnd (iShr y9 x3) 1) = 0 then some (some (.inl 0), h) else some (some (.inl 1), h))) := by
  refine (R_istore (ls' := [.inr (.inr (.inl 9)), .inr (.inr (.inl 12)), z0, .inl x1, z2, .inl x3, .inl x4, .inl x5, .inl x6, .inl y9, z8]) zf134_43 (Nat.le_of_ble_eq_true rfl) rfl rfl).trans ?_
  refine (R_iload_n zf134_45 rfl rfl).trans ?_
  refine (R_iconst zf134_46 zw_1 rfl).trans ?_
  refine (R_icmp_gt (t := 66) zf134_47 rfl rfl).trans ?_
  refine ite_congr rfl (fun c1_ => ?_) (fun c1_ => ?_)
  · refine (R_aload_n zf134_66 rfl zlt_9 rfl).trans ?_
    refine (R_getR zf134_67 zo_134 zfl_7_26 zk1_9 zft_7_4 zmr_9_4 rfl).trans ?_
    refine (R_iload zf134_70 rfl rfl).trans ?_
    refine (R_iload zf134_72 rfl rfl).trans ?_
    refine (R_iast zf134_74 zk_44 rfl).trans ?_
    refine ite_congr rfl (fun c2_ => ?_) (fun _ => rfl)
    refine (R_aload_n zf134_75 rfl zlt_9 rfl).trans ?_
    refine (R_aload_n zf134_76 rfl zlt_12 rfl).trans ?_
    refine (R_iload_n zf134_77 rfl rfl).trans ?_
    refine (R_iconst zf134_78 zw_1 rfl).trans ?_
    refine (R_isub zf134_79 rfl).trans ?_
    refine (R_iload zf134_80 rfl rfl).trans ?_
    refine (R_iload zf134_82 rfl rfl).trans ?_
    refine (R_vcallI zf134_84 zo_134 zvl_7_68 (by rw [zr_133]; rfl) zl_133 (Nat.le_of_ble_eq_true rfl) rfl rfl (Nat.le_of_ble_eq_true rfl) (Nat.le_of_ble_eq_true rfl) (es := [.inr (.inr (.inl 9)), .inr (.inr (.inl 12)), .inl (wI (x1 - 1)), .inl y9, .inl x3, vU, vU, vU, vU]) rfl rfl zk1_9 zo_133).trans ?_
    refine congrArg (cI _) (funext fun a4_ => funext fun h3_ => ?_)
    refine (R_iconst zf134_87 zw_m1 rfl).trans ?_
    refine (R_icmp_eq (t := 95) zf134_88 rfl rfl).trans ?_
    refine ite_congr rfl (fun c5_ => ?_) (fun c5_ => ?_)
    · refine (R_iconst zf134_95 zw_0 rfl).trans ?_
      refine (R_istore (ls' := [.inr (.inr (.inl 9)), .inr (.inr (.inl 12)), z0, .inl x1, z2, .inl x3, .inl x4, .inl x5, .inl x6, .inl y9, .inl 0]) zf134_96 (Nat.le_of_ble_eq_true rfl) rfl rfl).trans ?_
      refine (R_aload_n zf134_98 rfl zlt_9 rfl).trans ?_
      refine (R_getR zf134_99 zo_134 zfl_7_26 zk1_9 zft_7_4 zmr_9_4 rfl).trans ?_
      refine (R_iload zf134_102 rfl rfl).trans ?_
      refine (R_iload zf134_104 rfl rfl).trans ?_
      refine (R_iast zf134_106 zk_44 rfl).trans ?_
      refine ite_congr rfl (fun c6_ => ?_) (fun _ => rfl)
      refine (R_iload zf134_107 rfl rfl).trans ?_
      exact R_ireturn zf134_109 (by rw [zr_134]; rfl)
    · refine (R_iconst zf134_91 zw_1 rfl).trans ?_
      refine (R_goto (t := 96) zf134_92 rfl).trans ?_
      refine (R_istore (ls' := [.inr (.inr (.inl 9)), .inr (.inr (.inl 12)), z0, .inl x1, z2, .inl x3, .inl x4, .inl x5, .inl x6, .inl y9, .inl 1]) zf134_96 (Nat.le_of_ble_eq_true rfl) rfl rfl).trans ?_
      refine (R_aload_n zf134_98 rfl zlt_9 rfl).trans ?_
      refine (R_getR zf134_99 zo_134 zfl_7_26 zk1_9 zft_7_4 zmr_9_4 rfl).trans ?_
      refine (R_iload zf134_102 rfl rfl).trans ?_
      refine (R_iload zf134_104 rfl rfl).trans ?_
      refine (R_iast zf134_106 zk_44 rfl).trans ?_
      refine ite_congr rfl (fun c7_ => ?_) (fun _ => rfl)
      refine (R_iload zf134_107 rfl rfl).trans ?_
      exact R_ireturn zf134_109 (by rw [zr_134]; rfl)
  · refine (R_iload zf134_50 rfl rfl).trans ?_
    refine (R_iload zf134_52 rfl rfl).trans ?_
    refine (R_ishr zf134_54 rfl).trans ?_
    refine (R_iconst zf134_55 zw_1 rfl).trans ?_
    refine (R_iand zf134_56 rfl).trans ?_
    refine (R_if_eq (t := 64) zf134_57 rfl rfl).trans ?_
    refine ite_congr rfl (fun c8_ => ?_) (fun c8_ => ?_)
    · refine (R_iconst zf134_64 zw_0 rfl).trans ?_
      exact R_ireturn zf134_65 (by rw [zr_134]; rfl)
    · refine (R_iconst zf134_60 zw_1 rfl).trans ?_
      refine (R_goto (t := 65) zf134_61 rfl).trans ?_
      exact R_ireturn zf134_65 (by rw [zr_134]; rfl)
-- java/lang/String.length()I at 0
theorem q28_0_1 (d : Nat) (h : MH) : Run (d + 1) 28 0 [.inr (.inr (.inl 130))] [] h = (cI (Run d 29 0 [.inr (.inr (.inl 130))] [] h) fun a2_ h1_ => some (some (.inl (iShr 4 a2_)), h1_)) := by
  refine (R_aload_n zf28_0 rfl zlt_130 rfl).trans ?_
  refine (R_getR zf28_1 zo_28 zfl_13_9 zk1_130 zft_13_0 zmr_130_0 rfl).trans ?_
  refine (R_len111 (v := 4) zf28_4 zk_137 rfl rfl).trans ?_
  refine (R_aload_n zf28_5 rfl zlt_130 rfl).trans ?_
  refine (R_vcallI zf28_6 zo_28 zvl_13_335 (by rw [zr_29]; rfl) zl_29 (Nat.le_of_ble_eq_true rfl) rfl rfl (Nat.le_of_ble_eq_true rfl) (Nat.le_of_ble_eq_true rfl) (es := [.inr (.inr (.inl 130))]) rfl rfl zk1_130 zo_29).trans ?_
  refine congrArg (cI _) (funext fun a2_ => funext fun h1_ => ?_)
  refine (R_ishr zf28_9 rfl).trans ?_
  exact R_ireturn_i zf28_10 zr_28
-- java/lang/String.charAt(I)C at 0
theorem q11_0_1 (d : Nat) (x0 : Int) (h : MH) : Run (d + 1) 11 0 [.inr (.inr (.inl 130)), .inl x0] [] h = (cI (Run d 12 0 [.inr (.inr (.inl 130))] [] h) fun a2_ h1_ => (if a2_ = 0 then Run (d + 1) 11 21 [.inr (.inr (.inl 130)), .inl x0] [.inl x0, .inr (.inr (.inl 137))] h1_ else (cI (Run d 13 0 [.inr (.inr (.inl 137)), .inl x0] [] h1_) fun a5_ h4_ => (if 0 ≤ a5_ ∧ a5_ ≤ 65535 then some (some (.inl a5_), h4_) else none)))) := by
  refine (R_aload_n zf11_0 rfl zlt_130 rfl).trans ?_
  refine (R_vcallI zf11_1 zo_11 zvl_13_492 (by rw [zr_12]; rfl) zl_12 (Nat.le_of_ble_eq_true rfl) rfl rfl (Nat.le_of_ble_eq_true rfl) (Nat.le_of_ble_eq_true rfl) (es := [.inr (.inr (.inl 130))]) rfl rfl zk1_130 zo_12).trans ?_
  refine congrArg (cI _) (funext fun a2_ => funext fun h1_ => ?_)
  refine (R_if_eq (t := 16) zf11_4 rfl rfl).trans ?_
  refine ite_congr rfl (fun c3_ => ?_) (fun c3_ => ?_)
  · refine (R_aload_n zf11_16 rfl zlt_130 rfl).trans ?_
    refine (R_getR zf11_17 zo_11 zfl_13_9 zk1_130 zft_13_0 zmr_130_0 rfl).trans ?_
    refine (R_iload_n zf11_20 rfl rfl).trans ?_
    rfl
  · refine (R_aload_n zf11_7 rfl zlt_130 rfl).trans ?_
    refine (R_getR zf11_8 zo_11 zfl_13_9 zk1_130 zft_13_0 zmr_130_0 rfl).trans ?_
    refine (R_iload_n zf11_11 rfl rfl).trans ?_
    refine (R_callI zf11_12 zo_11 zsl_13_495 (by rw [zr_13]; rfl) zl_13 (Nat.le_of_ble_eq_true rfl) rfl rfl (Nat.le_of_ble_eq_true rfl) (Nat.le_of_ble_eq_true rfl) (es := [.inr (.inr (.inl 137)), .inl x0]) rfl rfl).trans ?_
    refine congrArg (cI _) (funext fun a5_ => funext fun h4_ => ?_)
    exact R_ireturn_c zf11_15 zr_11
-- java/lang/String.coder()B at 0
theorem q29_0 (d : Nat) (h : MH) : Run d 29 0 [.inr (.inr (.inl 126))] [] h = some (some (.inl 0), h) := by
  refine (R_getsI (u := 1) zf29_0 zo_29 zgl_13_38 rfl rfl).trans ?_
  refine ((R_if_eq (t := 13) zf29_3 rfl rfl).trans (if_neg (by decide))).trans ?_
  refine (R_aload_n zf29_6 rfl zlt_126 rfl).trans ?_
  refine (R_getC zf29_7 zo_29 zfl_13_15 zk1_126 zft_13_1 rfl).trans ?_
  refine (R_goto (t := 14) zf29_10 rfl).trans ?_
  exact R_ireturn zf29_14 (by rw [zr_29]; rfl)
-- java/lang/String.isLatin1()Z at 0
theorem q12_0 (d : Nat) (h : MH) : Run d 12 0 [.inr (.inr (.inl 126))] [] h = some (some (.inl 1), h) := by
  refine (R_getsI (u := 1) zf12_0 zo_12 zgl_13_38 rfl rfl).trans ?_
  refine ((R_if_eq (t := 17) zf12_3 rfl rfl).trans (if_neg (by decide))).trans ?_
  refine (R_aload_n zf12_6 rfl zlt_126 rfl).trans ?_
  refine (R_getC zf12_7 zo_12 zfl_13_15 zk1_126 zft_13_1 rfl).trans ?_
  refine ((R_if_ne (t := 17) zf12_10 rfl rfl).trans (if_neg (by decide))).trans ?_
  refine (R_iconst zf12_13 zw_1 rfl).trans ?_
  refine (R_goto (t := 18) zf12_14 rfl).trans ?_
  exact R_ireturn zf12_18 (by rw [zr_12]; rfl)
-- java/lang/StringLatin1.charAt([BI)C at 0
theorem q13_0 (d : Nat) (x0 : Int) (h : MH) : Run (d + 1) 13 0 [.inr (.inr (.inl 133)), .inl x0] [] h = (cV (Run d 14 0 [.inl x0, .inl 1] [] h) fun h1_ => (if 0 ≤ x0 ∧ x0 < 1 then (if 0 ≤ (toC (iAnd (ro 133 x0.toNat) 255)) ∧ (toC (iAnd (ro 133 x0.toNat) 255)) ≤ 65535 then some (some (.inl (toC (iAnd (ro 133 x0.toNat) 255))), h1_) else none) else none)) := by
  refine (R_iload_n zf13_0 rfl rfl).trans ?_
  refine (R_aload_n zf13_1 rfl zlt_133 rfl).trans ?_
  refine (R_len111 (v := 1) zf13_2 zk_133 rfl rfl).trans ?_
  refine (R_callV zf13_3 zo_13 zsl_14_9 zr_14 zl_14 (Nat.le_of_ble_eq_true rfl) rfl rfl (Nat.le_of_ble_eq_true rfl) (Nat.le_of_ble_eq_true rfl) (es := [.inl x0, .inl 1]) rfl rfl).trans ?_
  refine congrArg (cV _) (funext fun h1_ => ?_)
  refine (R_aload_n zf13_6 rfl zlt_133 rfl).trans ?_
  refine (R_iload_n zf13_7 rfl rfl).trans ?_
  refine (R_bald111 zf13_8 zk_133 rfl).trans ?_
  refine ite_congr rfl (fun c2_ => ?_) (fun _ => rfl)
  refine (R_sipush zf13_9 zs_255 rfl).trans ?_
  refine (R_iand zf13_12 rfl).trans ?_
  refine (R_i2c zf13_13 rfl).trans ?_
  exact R_ireturn_c zf13_14 zr_13
-- CannonPostModel.goesIn()Z at 0
theorem q209_0 (d : Nat) (h : MH) : Run (d + 1) 209 0 [.inr (.inr (.inl 97))] [] h = (if ¬ (h 97 12) = 6 then some (some (.inl 1), (up (up h 97 12 (wI ((h 97 12) + 1))) 97 10 (wI (((up h 97 12 (wI ((h 97 12) + 1))) 97 10) + 1)))) else (cI (Run d 189 0 [.inr (.inr (.inl 97))] [] h) fun a3_ h2_ => (if a3_ = 0 ∨ a3_ = 1 then some (some (.inl a3_), h2_) else none))) := by
  refine (R_aload_n zf209_0 rfl zlt_97 rfl).trans ?_
  refine (R_getI zf209_1 zo_209 zfl_12_131 zk1_97 zft_12_12 rfl).trans ?_
  refine (R_bipush zf209_4 zb_6 rfl).trans ?_
  refine (R_icmp_ne (t := 14) zf209_6 rfl rfl).trans ?_
  refine ite_congr rfl (fun c1_ => ?_) (fun c1_ => ?_)
  · refine (R_aload_n zf209_14 rfl zlt_97 rfl).trans ?_
    refine (R_dup zf209_15 rfl rfl).trans ?_
    refine (R_getI zf209_16 zo_209 zfl_12_131 zk1_97 zft_12_12 rfl).trans ?_
    refine (R_iconst zf209_19 zw_1 rfl).trans ?_
    refine (R_iadd zf209_20 rfl).trans ?_
    refine (R_putI zf209_21 zo_209 zfl_12_131 zk1_97 zft_12_12 rfl).trans ?_
    refine (R_aload_n zf209_24 rfl zlt_97 rfl).trans ?_
    refine (R_dup zf209_25 rfl rfl).trans ?_
    refine (R_getI zf209_26 zo_209 zfl_12_119 zk1_97 zft_12_10 rfl).trans ?_
    refine (R_iconst zf209_29 zw_1 rfl).trans ?_
    refine (R_iadd zf209_30 rfl).trans ?_
    refine (R_putI zf209_31 zo_209 zfl_12_119 zk1_97 zft_12_10 rfl).trans ?_
    refine (R_iconst zf209_34 zw_1 rfl).trans ?_
    exact R_ireturn zf209_35 (by rw [zr_209]; rfl)
  · refine (R_aload_n zf209_9 rfl zlt_97 rfl).trans ?_
    refine (R_vcallI zf209_10 zo_209 zvl_12_134 (by rw [zr_189]; rfl) zl_189 (Nat.le_of_ble_eq_true rfl) rfl rfl (Nat.le_of_ble_eq_true rfl) (Nat.le_of_ble_eq_true rfl) (es := [.inr (.inr (.inl 97))]) rfl rfl zk1_97 zo_189).trans ?_
    refine congrArg (cI _) (funext fun a3_ => funext fun h2_ => ?_)
    exact R_ireturn_z zf209_13 zr_209
-- CannonPostModel.compares(ZI)Z at 12
theorem q205_12 (d : Nat) (z0 : MV) (hz0 : cat z0 = 1) (z1 : MV) (hz1 : cat z1 = 1) (z2 : MV) (hz2 : cat z2 = 1) (z3 : MV) (hz3 : cat z3 = 1) (z4 : MV) (hz4 : cat z4 = 1) (y5 : Int) (h : MH) : Run (d + 1) 205 12 [.inr (.inr (.inl 97)), z0, z1, z2, z3, z4] [.inl y5] h = (if (h 97 11) = (-1) then (cI (Run d 188 0 [.inr (.inr (.inl 97))] [] h) fun a3_ h2_ => (cI (Run d 211 0 [.inl a3_] [] h2_) fun a5_ h4_ => (if ¬ a5_ = 0 then (cI (Run d 206 0 [.inr (.inr (.inl 97)), vU, vU, vU, vU] [] (up h4_ 97 10 (wI ((h4_ 97 10) + 1)))) fun a8_ h7_ => (if ¬ a3_ = 61 then (if ¬ a3_ = 60 then (if y5 ≤ a8_ then some (some (.inl 0), h7_) else some (some (.inl 1), h7_)) else (if a8_ ≤ y5 then some (some (.inl 0), h7_) else some (some (.inl 1), h7_))) else (if ¬ y5 = a8_ then some (some (.inl 0), h7_) else some (some (.inl 1), h7_)))) else (cI (Run d 189 0 [.inr (.inr (.inl 97))] [] h4_) fun a15_ h14_ => (if a15_ = 0 ∨ a15_ = 1 then some (some (.inl a15_), h14_) else none))))) else some (some (.inl 0), h)) := by
  refine (R_istore_n (ls' := [.inr (.inr (.inl 97)), z0, z1, .inl y5, z3, z4]) zf205_12 (Nat.le_of_ble_eq_true rfl) (st1_z rfl hz1 rfl) rfl).trans ?_
  refine (R_aload_n zf205_13 rfl zlt_97 rfl).trans ?_
  refine (R_getI zf205_14 zo_205 zfl_12_128 zk1_97 zft_12_11 rfl).trans ?_
  refine (R_iconst zf205_17 zw_m1 rfl).trans ?_
  refine (R_icmp_eq (t := 23) zf205_18 rfl rfl).trans ?_
  refine ite_congr rfl (fun c1_ => ?_) (fun c1_ => ?_)
  · refine (R_aload_n zf205_23 rfl zlt_97 rfl).trans ?_
    refine (R_vcallI zf205_24 zo_205 zvl_12_138 (by rw [zr_188]; rfl) zl_188 (Nat.le_of_ble_eq_true rfl) rfl rfl (Nat.le_of_ble_eq_true rfl) (Nat.le_of_ble_eq_true rfl) (es := [.inr (.inr (.inl 97))]) rfl rfl zk1_97 zo_188).trans ?_
    refine congrArg (cI _) (funext fun a3_ => funext fun h2_ => ?_)
    refine (R_istore (ls' := [.inr (.inr (.inl 97)), z0, z1, .inl y5, .inl a3_, z4]) zf205_27 (Nat.le_of_ble_eq_true rfl) rfl rfl).trans ?_
    refine (R_iload zf205_29 rfl rfl).trans ?_
    refine (R_callI zf205_31 zo_205 zsl_12_181 (by rw [zr_211]; rfl) zl_211 (Nat.le_of_ble_eq_true rfl) rfl rfl (Nat.le_of_ble_eq_true rfl) (Nat.le_of_ble_eq_true rfl) (es := [.inl a3_]) rfl rfl).trans ?_
    refine congrArg (cI _) (funext fun a5_ => funext fun h4_ => ?_)
    refine (R_if_ne (t := 42) zf205_34 rfl rfl).trans ?_
    refine ite_congr rfl (fun c6_ => ?_) (fun c6_ => ?_)
    · refine (R_aload_n zf205_42 rfl zlt_97 rfl).trans ?_
      refine (R_dup zf205_43 rfl rfl).trans ?_
      refine (R_getI zf205_44 zo_205 zfl_12_119 zk1_97 zft_12_10 rfl).trans ?_
      refine (R_iconst zf205_47 zw_1 rfl).trans ?_
      refine (R_iadd zf205_48 rfl).trans ?_
      refine (R_putI zf205_49 zo_205 zfl_12_119 zk1_97 zft_12_10 rfl).trans ?_
      refine (R_aload_n zf205_52 rfl zlt_97 rfl).trans ?_
      refine (R_vcallI zf205_53 zo_205 zvl_12_161 (by rw [zr_206]; rfl) zl_206 (Nat.le_of_ble_eq_true rfl) rfl rfl (Nat.le_of_ble_eq_true rfl) (Nat.le_of_ble_eq_true rfl) (es := [.inr (.inr (.inl 97)), vU, vU, vU, vU]) rfl rfl zk1_97 zo_206).trans ?_
      refine congrArg (cI _) (funext fun a8_ => funext fun h7_ => ?_)
      refine (R_istore (ls' := [.inr (.inr (.inl 97)), z0, z1, .inl y5, .inl a3_, .inl a8_]) zf205_56 (Nat.le_of_ble_eq_true rfl) rfl rfl).trans ?_
      refine (R_iload zf205_58 rfl rfl).trans ?_
      refine (R_bipush zf205_60 zb_61 rfl).trans ?_
      refine (R_icmp_ne (t := 79) zf205_62 rfl rfl).trans ?_
      refine ite_congr rfl (fun c9_ => ?_) (fun c9_ => ?_)
      · refine (R_iload zf205_79 rfl rfl).trans ?_
        refine (R_bipush zf205_81 zb_60 rfl).trans ?_
        refine (R_icmp_ne (t := 100) zf205_83 rfl rfl).trans ?_
        refine ite_congr rfl (fun c10_ => ?_) (fun c10_ => ?_)
        · refine (R_iload_n zf205_100 rfl rfl).trans ?_
          refine (R_iload zf205_101 rfl rfl).trans ?_
          refine (R_icmp_le (t := 110) zf205_103 rfl rfl).trans ?_
          refine ite_congr rfl (fun c11_ => ?_) (fun c11_ => ?_)
          · refine (R_iconst zf205_110 zw_0 rfl).trans ?_
            exact R_ireturn zf205_111 (by rw [zr_205]; rfl)
          · refine (R_iconst zf205_106 zw_1 rfl).trans ?_
            refine (R_goto (t := 111) zf205_107 rfl).trans ?_
            exact R_ireturn zf205_111 (by rw [zr_205]; rfl)
        · refine (R_iload_n zf205_86 rfl rfl).trans ?_
          refine (R_iload zf205_87 rfl rfl).trans ?_
          refine (R_icmp_ge (t := 96) zf205_89 rfl rfl).trans ?_
          refine ite_congr rfl (fun c12_ => ?_) (fun c12_ => ?_)
          · refine (R_iconst zf205_96 zw_0 rfl).trans ?_
            refine (R_goto (t := 111) zf205_97 rfl).trans ?_
            exact R_ireturn zf205_111 (by rw [zr_205]; rfl)
          · refine (R_iconst zf205_92 zw_1 rfl).trans ?_
            refine (R_goto (t := 111) zf205_93 rfl).trans ?_
            exact R_ireturn zf205_111 (by rw [zr_205]; rfl)
      · refine (R_iload_n zf205_65 rfl rfl).trans ?_
        refine (R_iload zf205_66 rfl rfl).trans ?_
        refine (R_icmp_ne (t := 75) zf205_68 rfl rfl).trans ?_
        refine ite_congr rfl (fun c13_ => ?_) (fun c13_ => ?_)
        · refine (R_iconst zf205_75 zw_0 rfl).trans ?_
          refine (R_goto (t := 111) zf205_76 rfl).trans ?_
          exact R_ireturn zf205_111 (by rw [zr_205]; rfl)
        · refine (R_iconst zf205_71 zw_1 rfl).trans ?_
          refine (R_goto (t := 111) zf205_72 rfl).trans ?_
          exact R_ireturn zf205_111 (by rw [zr_205]; rfl)
    · refine (R_aload_n zf205_37 rfl zlt_97 rfl).trans ?_
      refine (R_vcallI zf205_38 zo_205 zvl_12_134 (by rw [zr_189]; rfl) zl_189 (Nat.le_of_ble_eq_true rfl) rfl rfl (Nat.le_of_ble_eq_true rfl) (Nat.le_of_ble_eq_true rfl) (es := [.inr (.inr (.inl 97))]) rfl rfl zk1_97 zo_189).trans ?_
      refine congrArg (cI _) (funext fun a15_ => funext fun h14_ => ?_)
      exact R_ireturn_z zf205_41 zr_205
  · refine (R_iconst zf205_21 zw_0 rfl).trans ?_
    exact R_ireturn zf205_22 (by rw [zr_205]; rfl)
-- CannonPostModel.isAmong(Ljava/lang/String;I)Z at 0
theorem q201_0_1 (d : Nat) (x0 : Int) (h : MH) : Run (d + 1) 201 0 [.inr (.inr (.inl 125)), .inl x0, vU] [] h = Run (d + 1) 201 2 [.inr (.inr (.inl 125)), .inl x0, .inl 0] [] h := by
  refine (R_iconst zf201_0 zw_0 rfl).trans ?_
  refine (R_istore_n (ls' := [.inr (.inr (.inl 125)), .inl x0, .inl 0]) zf201_1 (Nat.le_of_ble_eq_true rfl) rfl rfl).trans ?_
  rfl
-- CannonPostModel.atom()I at 90
theorem q208_90 (d : Nat) (z0 : MV) (hz0 : cat z0 = 1) (x1 : Int) (x2 : Int) (h : MH) : Run (d + 1) 208 90 [.inr (.inr (.inl 97)), z0, .inl x1, .inl x2] [] h = (cI (Run d 196 0 [.inr (.inr (.inl 97))] [] h) fun a2_ h1_ => (if a2_ = 0 then some (some (.inl x1), h1_) else (if ¬ (h1_ 97 11) = (-1) then some (some (.inl x1), h1_) else (if ¬ x2 = 4 then (if h1_ 97 5 = 98 then (if 0 ≤ (wI ((h1_ 97 8) + (h1_ 97 10))) ∧ (wI ((h1_ 97 8) + (h1_ 97 10))) < 240 then Run (d + 1) 208 90 [.inr (.inr (.inl 97)), z0, .inl (wI ((wI ((wI (10 * x1)) + (h1_ 98 (wI ((h1_ 97 8) + (h1_ 97 10))).toNat))) - 48)), .inl (wI (x2 + 1))] [] (up h1_ 97 10 (wI ((h1_ 97 10) + 1))) else none) else (if h1_ 97 5 = 99 then (if 0 ≤ (wI ((h1_ 97 8) + (h1_ 97 10))) ∧ (wI ((h1_ 97 8) + (h1_ 97 10))) < 960 then Run (d + 1) 208 90 [.inr (.inr (.inl 97)), z0, .inl (wI ((wI ((wI (10 * x1)) + (h1_ 99 (wI ((h1_ 97 8) + (h1_ 97 10))).toNat))) - 48)), .inl (wI (x2 + 1))] [] (up h1_ 97 10 (wI ((h1_ 97 10) + 1))) else none) else Run (d + 1) 208 122 [.inr (.inr (.inl 97)), z0, .inl x1, .inl x2] [.inr (.inr (.inl 97)), .inl (wI (10 * x1))] h1_)) else (cI (Run d 189 0 [.inr (.inr (.inl 97))] [] h1_) fun a11_ h10_ => some (some (.inl 0), h10_)))))) := by
  refine (R_aload_n zf208_90 rfl zlt_97 rfl).trans ?_
  refine (R_vcallI zf208_91 zo_208 zvl_12_168 (by rw [zr_196]; rfl) zl_196 (Nat.le_of_ble_eq_true rfl) rfl rfl (Nat.le_of_ble_eq_true rfl) (Nat.le_of_ble_eq_true rfl) (es := [.inr (.inr (.inl 97))]) rfl rfl zk1_97 zo_196).trans ?_
  refine congrArg (cI _) (funext fun a2_ => funext fun h1_ => ?_)
  refine (R_if_eq (t := 156) zf208_94 rfl rfl).trans ?_
  refine ite_congr rfl (fun c3_ => ?_) (fun c3_ => ?_)
  · refine (R_iload_n zf208_156 rfl rfl).trans ?_
    exact R_ireturn_i zf208_157 zr_208
  · refine (R_aload_n zf208_97 rfl zlt_97 rfl).trans ?_
    refine (R_getI zf208_98 zo_208 zfl_12_128 zk1_97 zft_12_11 rfl).trans ?_
    refine (R_iconst zf208_101 zw_m1 rfl).trans ?_
    refine (R_icmp_ne (t := 156) zf208_102 rfl rfl).trans ?_
    refine ite_congr rfl (fun c4_ => ?_) (fun c4_ => ?_)
    · refine (R_iload_n zf208_156 rfl rfl).trans ?_
      exact R_ireturn_i zf208_157 zr_208
    · refine (R_iload_n zf208_105 rfl rfl).trans ?_
      refine (R_iconst zf208_106 zw_4 rfl).trans ?_
      refine (R_icmp_ne (t := 117) zf208_107 rfl rfl).trans ?_
      refine ite_congr rfl (fun c5_ => ?_) (fun c5_ => ?_)
      · refine (R_bipush zf208_117 zb_10 rfl).trans ?_
        refine (R_iload_n zf208_119 rfl rfl).trans ?_
        refine (R_imul zf208_120 rfl).trans ?_
        refine (R_aload_n zf208_121 rfl zlt_97 rfl).trans ?_
        refine (switch_if (c := h1_ 97 5 = 98) (fun c6_ => ?_) (fun c6_ => ?_))
        · refine (R_getMc (b := 98) zf208_122 zo_208 zfl_12_23 zk1_97 zft_12_5 c6_ rfl rfl).trans ?_
          refine (R_aload_n zf208_125 rfl zlt_97 rfl).trans ?_
          refine (R_getI zf208_126 zo_208 zfl_12_125 zk1_97 zft_12_8 rfl).trans ?_
          refine (R_aload_n zf208_129 rfl zlt_97 rfl).trans ?_
          refine (R_getI zf208_130 zo_208 zfl_12_119 zk1_97 zft_12_10 rfl).trans ?_
          refine (R_iadd zf208_133 rfl).trans ?_
          refine (R_bald zf208_134 zk_98 rfl).trans ?_
          refine ite_congr rfl (fun c7_ => ?_) (fun _ => rfl)
          refine (R_iadd zf208_135 rfl).trans ?_
          refine (R_bipush zf208_136 zb_48 rfl).trans ?_
          refine (R_isub zf208_138 rfl).trans ?_
          refine (R_istore_n (ls' := [.inr (.inr (.inl 97)), z0, .inl (wI ((wI ((wI (10 * x1)) + (h1_ 98 (wI ((h1_ 97 8) + (h1_ 97 10))).toNat))) - 48)), .inl x2]) zf208_139 (Nat.le_of_ble_eq_true rfl) (st1_z rfl hz0 rfl) rfl).trans ?_
          refine (R_aload_n zf208_140 rfl zlt_97 rfl).trans ?_
          refine (R_dup zf208_141 rfl rfl).trans ?_
          refine (R_getI zf208_142 zo_208 zfl_12_119 zk1_97 zft_12_10 rfl).trans ?_
          refine (R_iconst zf208_145 zw_1 rfl).trans ?_
          refine (R_iadd zf208_146 rfl).trans ?_
          refine (R_putI zf208_147 zo_208 zfl_12_119 zk1_97 zft_12_10 rfl).trans ?_
          refine (R_iinc (ls' := [.inr (.inr (.inl 97)), z0, .inl (wI ((wI ((wI (10 * x1)) + (h1_ 98 (wI ((h1_ 97 8) + (h1_ 97 10))).toNat))) - 48)), .inl (wI (x2 + 1))]) zf208_150 rfl rfl rfl).trans ?_
          refine (R_goto (t := 90) zf208_153 rfl).trans ?_
          rfl
        refine (switch_if (c := h1_ 97 5 = 99) (fun c8_ => ?_) (fun c8_ => ?_))
        · refine (R_getMc (b := 99) zf208_122 zo_208 zfl_12_23 zk1_97 zft_12_5 c8_ rfl rfl).trans ?_
          refine (R_aload_n zf208_125 rfl zlt_97 rfl).trans ?_
          refine (R_getI zf208_126 zo_208 zfl_12_125 zk1_97 zft_12_8 rfl).trans ?_
          refine (R_aload_n zf208_129 rfl zlt_97 rfl).trans ?_
          refine (R_getI zf208_130 zo_208 zfl_12_119 zk1_97 zft_12_10 rfl).trans ?_
          refine (R_iadd zf208_133 rfl).trans ?_
          refine (R_bald zf208_134 zk_99 rfl).trans ?_
          refine ite_congr rfl (fun c9_ => ?_) (fun _ => rfl)
          refine (R_iadd zf208_135 rfl).trans ?_
          refine (R_bipush zf208_136 zb_48 rfl).trans ?_
          refine (R_isub zf208_138 rfl).trans ?_
          refine (R_istore_n (ls' := [.inr (.inr (.inl 97)), z0, .inl (wI ((wI ((wI (10 * x1)) + (h1_ 99 (wI ((h1_ 97 8) + (h1_ 97 10))).toNat))) - 48)), .inl x2]) zf208_139 (Nat.le_of_ble_eq_true rfl) (st1_z rfl hz0 rfl) rfl).trans ?_
          refine (R_aload_n zf208_140 rfl zlt_97 rfl).trans ?_
          refine (R_dup zf208_141 rfl rfl).trans ?_
          refine (R_getI zf208_142 zo_208 zfl_12_119 zk1_97 zft_12_10 rfl).trans ?_
          refine (R_iconst zf208_145 zw_1 rfl).trans ?_
          refine (R_iadd zf208_146 rfl).trans ?_
          refine (R_putI zf208_147 zo_208 zfl_12_119 zk1_97 zft_12_10 rfl).trans ?_
          refine (R_iinc (ls' := [.inr (.inr (.inl 97)), z0, .inl (wI ((wI ((wI (10 * x1)) + (h1_ 99 (wI ((h1_ 97 8) + (h1_ 97 10))).toNat))) - 48)), .inl (wI (x2 + 1))]) zf208_150 rfl rfl rfl).trans ?_
          refine (R_goto (t := 90) zf208_153 rfl).trans ?_
          rfl
        rfl
      · refine (R_aload_n zf208_110 rfl zlt_97 rfl).trans ?_
        refine (R_vcallI zf208_111 zo_208 zvl_12_134 (by rw [zr_189]; rfl) zl_189 (Nat.le_of_ble_eq_true rfl) rfl rfl (Nat.le_of_ble_eq_true rfl) (Nat.le_of_ble_eq_true rfl) (es := [.inr (.inr (.inl 97))]) rfl rfl zk1_97 zo_189).trans ?_
        refine congrArg (cI _) (funext fun a11_ => funext fun h10_ => ?_)
        refine (R_pop zf208_114 rfl rfl).trans ?_
        refine (R_iconst zf208_115 zw_0 rfl).trans ?_
        exact R_ireturn_i zf208_116 zr_208
-- CannonPostModel.term()I at 45
theorem q207_45 (d : Nat) (x0 : Int) (z1 : MV) (hz1 : cat z1 = 1) (z2 : MV) (hz2 : cat z2 = 1) (z3 : MV) (hz3 : cat z3 = 1) (y4 : Int) (h : MH) : Run (d + 1) 207 45 [.inr (.inr (.inl 97)), .inl x0, z1, z2, z3] [.inl y4] h = (cI (Run d 208 0 [.inr (.inr (.inl 97)), vU, vU, vU] [] (up h 97 10 (wI ((h 97 10) + 1)))) fun a2_ h1_ => (if y4 = 0 then (if ¬ (cmpL a2_ 0) = 0 then (if a2_ = 0 then none else (cI (Run d 210 0 [.inr (.inl (wL (x0.tdiv a2_))), vU] [] h1_) fun a6_ h5_ => Run (d + 1) 207 5 [.inr (.inr (.inl 97)), .inl a6_, .inl y4, .inr (.inl a2_), vU] [] h5_)) else (cI (Run d 210 0 [.inr (.inl 0), vU] [] h1_) fun a8_ h7_ => Run (d + 1) 207 5 [.inr (.inr (.inl 97)), .inl a8_, .inl y4, .inr (.inl a2_), vU] [] h7_)) else (cI (Run d 210 0 [.inr (.inl (wL (x0 * a2_))), vU] [] h1_) fun a10_ h9_ => Run (d + 1) 207 5 [.inr (.inr (.inl 97)), .inl a10_, .inl y4, .inr (.inl a2_), vU] [] h9_))) := by
  refine (R_istore_n (ls' := [.inr (.inr (.inl 97)), .inl x0, .inl y4, z2, z3]) zf207_45 (Nat.le_of_ble_eq_true rfl) rfl rfl).trans ?_
  refine (R_aload_n zf207_46 rfl zlt_97 rfl).trans ?_
  refine (R_dup zf207_47 rfl rfl).trans ?_
  refine (R_getI zf207_48 zo_207 zfl_12_119 zk1_97 zft_12_10 rfl).trans ?_
  refine (R_iconst zf207_51 zw_1 rfl).trans ?_
  refine (R_iadd zf207_52 rfl).trans ?_
  refine (R_putI zf207_53 zo_207 zfl_12_119 zk1_97 zft_12_10 rfl).trans ?_
  refine (R_aload_n zf207_56 rfl zlt_97 rfl).trans ?_
  refine (R_vcallI zf207_57 zo_207 zvl_12_171 (by rw [zr_208]; rfl) zl_208 (Nat.le_of_ble_eq_true rfl) rfl rfl (Nat.le_of_ble_eq_true rfl) (Nat.le_of_ble_eq_true rfl) (es := [.inr (.inr (.inl 97)), vU, vU, vU]) rfl rfl zk1_97 zo_208).trans ?_
  refine congrArg (cI _) (funext fun a2_ => funext fun h1_ => ?_)
  refine (R_i2l zf207_60 rfl).trans ?_
  refine (R_lstore_n (ls' := [.inr (.inr (.inl 97)), .inl x0, .inl y4, .inr (.inl a2_), vU]) zf207_61 (Nat.le_of_ble_eq_true rfl) rfl rfl).trans ?_
  refine (R_iload_n zf207_62 rfl rfl).trans ?_
  refine (R_if_eq (t := 73) zf207_63 rfl rfl).trans ?_
  refine ite_congr rfl (fun c3_ => ?_) (fun c3_ => ?_)
  · refine (R_lload_n zf207_73 rfl rfl).trans ?_
    refine (R_lconst (v := 0) zf207_74 rfl rfl).trans ?_
    refine (R_lcmp zf207_75 rfl).trans ?_
    refine (R_if_ne (t := 83) zf207_76 rfl rfl).trans ?_
    refine ite_congr rfl (fun c4_ => ?_) (fun c4_ => ?_)
    · refine (R_iload_n zf207_83 rfl rfl).trans ?_
      refine (R_i2l zf207_84 rfl).trans ?_
      refine (R_lload_n zf207_85 rfl rfl).trans ?_
      refine (R_ldiv0 zf207_86 rfl).trans ?_
      refine ite_congr rfl (fun _ => rfl) (fun _ => ?_)
      refine (R_callI zf207_87 zo_207 zsl_12_174 (by rw [zr_210]; rfl) zl_210 (Nat.le_of_ble_eq_true rfl) rfl rfl (Nat.le_of_ble_eq_true rfl) (Nat.le_of_ble_eq_true rfl) (es := [.inr (.inl (wL (x0.tdiv a2_))), vU]) rfl rfl).trans ?_
      refine congrArg (cI _) (funext fun a6_ => funext fun h5_ => ?_)
      refine (R_istore_n (ls' := [.inr (.inr (.inl 97)), .inl a6_, .inl y4, .inr (.inl a2_), vU]) zf207_90 (Nat.le_of_ble_eq_true rfl) rfl rfl).trans ?_
      refine (R_goto (t := 5) zf207_91 rfl).trans ?_
      rfl
    · refine (R_lconst (v := 0) zf207_79 rfl rfl).trans ?_
      refine (R_goto (t := 87) zf207_80 rfl).trans ?_
      refine (R_callI zf207_87 zo_207 zsl_12_174 (by rw [zr_210]; rfl) zl_210 (Nat.le_of_ble_eq_true rfl) rfl rfl (Nat.le_of_ble_eq_true rfl) (Nat.le_of_ble_eq_true rfl) (es := [.inr (.inl 0), vU]) rfl rfl).trans ?_
      refine congrArg (cI _) (funext fun a8_ => funext fun h7_ => ?_)
      refine (R_istore_n (ls' := [.inr (.inr (.inl 97)), .inl a8_, .inl y4, .inr (.inl a2_), vU]) zf207_90 (Nat.le_of_ble_eq_true rfl) rfl rfl).trans ?_
      refine (R_goto (t := 5) zf207_91 rfl).trans ?_
      rfl
  · refine (R_iload_n zf207_66 rfl rfl).trans ?_
    refine (R_i2l zf207_67 rfl).trans ?_
    refine (R_lload_n zf207_68 rfl rfl).trans ?_
    refine (R_lmul zf207_69 rfl).trans ?_
    refine (R_goto (t := 87) zf207_70 rfl).trans ?_
    refine (R_callI zf207_87 zo_207 zsl_12_174 (by rw [zr_210]; rfl) zl_210 (Nat.le_of_ble_eq_true rfl) rfl rfl (Nat.le_of_ble_eq_true rfl) (Nat.le_of_ble_eq_true rfl) (es := [.inr (.inl (wL (x0 * a2_))), vU]) rfl rfl).trans ?_
    refine congrArg (cI _) (funext fun a10_ => funext fun h9_ => ?_)
    refine (R_istore_n (ls' := [.inr (.inr (.inl 97)), .inl a10_, .inl y4, .inr (.inl a2_), vU]) zf207_90 (Nat.le_of_ble_eq_true rfl) rfl rfl).trans ?_
    refine (R_goto (t := 5) zf207_91 rfl).trans ?_
    rfl
-- CannonPostModel.within(J)I at 0
theorem q210_0 (d : Nat) (x0 : Int) (h : MH) : Run d 210 0 [.inr (.inl x0), vU] [] h = some (some (.inl (wI (mx (-1000000) (mn 1000000 x0)))), h) := by
  refine (R_ldc2_w zf210_0 zo_210 zll_12_141 rfl).trans ?_
  refine (R_ldc2_w zf210_3 zo_210 zll_12_143 rfl).trans ?_
  refine (R_lload_n zf210_6 rfl rfl).trans ?_
  refine (R_mminL zf210_7 zo_210 zsl_12_145 zml_12_145 zna_12_145 (Nat.le_of_ble_eq_true rfl) rfl).trans ?_
  refine (R_mmaxL zf210_10 zo_210 zsl_12_151 zml_12_151 zna_12_151 (Nat.le_of_ble_eq_true rfl) rfl).trans ?_
  refine (R_l2i zf210_13 rfl).trans ?_
  exact R_ireturn_i zf210_14 zr_210
-- CannonPostModel.sum()I at 5
theorem q206_5_1 (d : Nat) (x0 : Int) (z1 : MV) (hz1 : cat z1 = 1) (x2 : Int) (z3 : MV) (hz3 : cat z3 = 1) (h : MH) : Run (d + 1) 206 5 [.inr (.inr (.inl 97)), .inl x0, z1, .inr (.inl x2), z3] [] h = (if ¬ (h 97 11) = (-1) then some (some (.inl x0), h) else (cI (Run d 188 0 [.inr (.inr (.inl 97))] [] h) fun a3_ h2_ => (if a3_ = 43 then (cI (Run d 188 0 [.inr (.inr (.inl 97))] [] h2_) fun a6_ h5_ => (if ¬ a6_ = 43 then Run (d + 1) 206 45 [.inr (.inr (.inl 97)), .inl x0, z1, .inr (.inl x2), z3] [.inl 0] h5_ else Run (d + 1) 206 45 [.inr (.inr (.inl 97)), .inl x0, z1, .inr (.inl x2), z3] [.inl 1] h5_)) else (cI (Run d 188 0 [.inr (.inr (.inl 97))] [] h2_) fun a9_ h8_ => (if ¬ a9_ = 45 then some (some (.inl x0), h8_) else (cI (Run d 188 0 [.inr (.inr (.inl 97))] [] h8_) fun a12_ h11_ => (if ¬ a12_ = 43 then Run (d + 1) 206 45 [.inr (.inr (.inl 97)), .inl x0, z1, .inr (.inl x2), z3] [.inl 0] h11_ else Run (d + 1) 206 45 [.inr (.inr (.inl 97)), .inl x0, z1, .inr (.inl x2), z3] [.inl 1] h11_))))))) := by
  refine (R_aload_n zf206_5 rfl zlt_97 rfl).trans ?_
  refine (R_getI zf206_6 zo_206 zfl_12_128 zk1_97 zft_12_11 rfl).trans ?_
  refine (R_iconst zf206_9 zw_m1 rfl).trans ?_
  refine (R_icmp_ne (t := 84) zf206_10 rfl rfl).trans ?_
  refine ite_congr rfl (fun c1_ => ?_) (fun c1_ => ?_)
  · refine (R_iload_n zf206_84 rfl rfl).trans ?_
    exact R_ireturn_i zf206_85 zr_206
  · refine (R_aload_n zf206_13 rfl zlt_97 rfl).trans ?_
    refine (R_vcallI zf206_14 zo_206 zvl_12_138 (by rw [zr_188]; rfl) zl_188 (Nat.le_of_ble_eq_true rfl) rfl rfl (Nat.le_of_ble_eq_true rfl) (Nat.le_of_ble_eq_true rfl) (es := [.inr (.inr (.inl 97))]) rfl rfl zk1_97 zo_188).trans ?_
    refine congrArg (cI _) (funext fun a3_ => funext fun h2_ => ?_)
    refine (R_bipush zf206_17 zb_43 rfl).trans ?_
    refine (R_icmp_eq (t := 31) zf206_19 rfl rfl).trans ?_
    refine ite_congr rfl (fun c4_ => ?_) (fun c4_ => ?_)
    · refine (R_aload_n zf206_31 rfl zlt_97 rfl).trans ?_
      refine (R_vcallI zf206_32 zo_206 zvl_12_138 (by rw [zr_188]; rfl) zl_188 (Nat.le_of_ble_eq_true rfl) rfl rfl (Nat.le_of_ble_eq_true rfl) (Nat.le_of_ble_eq_true rfl) (es := [.inr (.inr (.inl 97))]) rfl rfl zk1_97 zo_188).trans ?_
      refine congrArg (cI _) (funext fun a6_ => funext fun h5_ => ?_)
      refine (R_bipush zf206_35 zb_43 rfl).trans ?_
      refine (R_icmp_ne (t := 44) zf206_37 rfl rfl).trans ?_
      refine ite_congr rfl (fun c7_ => ?_) (fun c7_ => ?_)
      · refine (R_iconst zf206_44 zw_0 rfl).trans ?_
        rfl
      · refine (R_iconst zf206_40 zw_1 rfl).trans ?_
        refine (R_goto (t := 45) zf206_41 rfl).trans ?_
        rfl
    · refine (R_aload_n zf206_22 rfl zlt_97 rfl).trans ?_
      refine (R_vcallI zf206_23 zo_206 zvl_12_138 (by rw [zr_188]; rfl) zl_188 (Nat.le_of_ble_eq_true rfl) rfl rfl (Nat.le_of_ble_eq_true rfl) (Nat.le_of_ble_eq_true rfl) (es := [.inr (.inr (.inl 97))]) rfl rfl zk1_97 zo_188).trans ?_
      refine congrArg (cI _) (funext fun a9_ => funext fun h8_ => ?_)
      refine (R_bipush zf206_26 zb_45 rfl).trans ?_
      refine (R_icmp_ne (t := 84) zf206_28 rfl rfl).trans ?_
      refine ite_congr rfl (fun c10_ => ?_) (fun c10_ => ?_)
      · refine (R_iload_n zf206_84 rfl rfl).trans ?_
        exact R_ireturn_i zf206_85 zr_206
      · refine (R_aload_n zf206_31 rfl zlt_97 rfl).trans ?_
        refine (R_vcallI zf206_32 zo_206 zvl_12_138 (by rw [zr_188]; rfl) zl_188 (Nat.le_of_ble_eq_true rfl) rfl rfl (Nat.le_of_ble_eq_true rfl) (Nat.le_of_ble_eq_true rfl) (es := [.inr (.inr (.inl 97))]) rfl rfl zk1_97 zo_188).trans ?_
        refine congrArg (cI _) (funext fun a12_ => funext fun h11_ => ?_)
        refine (R_bipush zf206_35 zb_43 rfl).trans ?_
        refine (R_icmp_ne (t := 44) zf206_37 rfl rfl).trans ?_
        refine ite_congr rfl (fun c13_ => ?_) (fun c13_ => ?_)
        · refine (R_iconst zf206_44 zw_0 rfl).trans ?_
          rfl
        · refine (R_iconst zf206_40 zw_1 rfl).trans ?_
          refine (R_goto (t := 45) zf206_41 rfl).trans ?_
          rfl
-- CannonPostModel.isWhole()Z at 52
theorem q198_52 (d : Nat) (x0 : Int) (z1 : MV) (hz1 : cat z1 = 1) (h : MH) : Run d 198 52 [.inr (.inr (.inl 97)), .inl x0, z1] [] h = (if (h 97 29) ≤ x0 then (if (h 97 28) ≤ 1 then some (some (.inl 0), h) else (if (h 97 29) ≤ 0 then some (some (.inl 0), h) else some (some (.inl 1), h))) else (if 0 ≤ (wI ((wI (3 * x0)) + 2)) ∧ (wI ((wI (3 * x0)) + 2)) < 15 then (if (h 107 (wI ((wI (3 * x0)) + 2)).toNat) < (h 97 28) then Run d 198 52 [.inr (.inr (.inl 97)), .inl (wI (x0 + 1)), z1] [] h else some (some (.inl 0), h)) else none)) := by
  refine (R_iload_n zf198_52 rfl rfl).trans ?_
  refine (R_aload_n zf198_53 rfl zlt_97 rfl).trans ?_
  refine (R_getI zf198_54 zo_198 zfl_12_248 zk1_97 zft_12_29 rfl).trans ?_
  refine (R_icmp_ge (t := 85) zf198_57 rfl rfl).trans ?_
  refine ite_congr rfl (fun c1_ => ?_) (fun c1_ => ?_)
  · refine (R_aload_n zf198_85 rfl zlt_97 rfl).trans ?_
    refine (R_getI zf198_86 zo_198 zfl_12_245 zk1_97 zft_12_28 rfl).trans ?_
    refine (R_iconst zf198_89 zw_1 rfl).trans ?_
    refine (R_icmp_le (t := 104) zf198_90 rfl rfl).trans ?_
    refine ite_congr rfl (fun c2_ => ?_) (fun c2_ => ?_)
    · refine (R_iconst zf198_104 zw_0 rfl).trans ?_
      exact R_ireturn zf198_105 (by rw [zr_198]; rfl)
    · refine (R_aload_n zf198_93 rfl zlt_97 rfl).trans ?_
      refine (R_getI zf198_94 zo_198 zfl_12_248 zk1_97 zft_12_29 rfl).trans ?_
      refine (R_if_le (t := 104) zf198_97 rfl rfl).trans ?_
      refine ite_congr rfl (fun c3_ => ?_) (fun c3_ => ?_)
      · refine (R_iconst zf198_104 zw_0 rfl).trans ?_
        exact R_ireturn zf198_105 (by rw [zr_198]; rfl)
      · refine (R_iconst zf198_100 zw_1 rfl).trans ?_
        refine (R_goto (t := 105) zf198_101 rfl).trans ?_
        exact R_ireturn zf198_105 (by rw [zr_198]; rfl)
  · refine (R_aload_n zf198_60 rfl zlt_97 rfl).trans ?_
    refine (R_getR zf198_61 zo_198 zfl_12_52 zk1_97 zft_12_23 zmr_97_23 rfl).trans ?_
    refine (R_iconst zf198_64 zw_3 rfl).trans ?_
    refine (R_iload_n zf198_65 rfl rfl).trans ?_
    refine (R_imul zf198_66 rfl).trans ?_
    refine (R_iconst zf198_67 zw_2 rfl).trans ?_
    refine (R_iadd zf198_68 rfl).trans ?_
    refine (R_iald zf198_69 zk_107 rfl).trans ?_
    refine ite_congr rfl (fun c4_ => ?_) (fun _ => rfl)
    refine (R_aload_n zf198_70 rfl zlt_97 rfl).trans ?_
    refine (R_getI zf198_71 zo_198 zfl_12_245 zk1_97 zft_12_28 rfl).trans ?_
    refine (R_icmp_lt (t := 79) zf198_74 rfl rfl).trans ?_
    refine ite_congr rfl (fun c5_ => ?_) (fun c5_ => ?_)
    · refine (R_iinc (ls' := [.inr (.inr (.inl 97)), .inl (wI (x0 + 1)), z1]) zf198_79 rfl rfl rfl).trans ?_
      refine (R_goto (t := 52) zf198_82 rfl).trans ?_
      rfl
    · refine (R_iconst zf198_77 zw_0 rfl).trans ?_
      exact R_ireturn zf198_78 (by rw [zr_198]; rfl)
-- CannonPostModel.isWhole()Z at 12
theorem q198_12 (d : Nat) (x0 : Int) (x1 : Int) (h : MH) : Run d 198 12 [.inr (.inr (.inl 97)), .inl x0, .inl x1] [] h = (if x0 ≤ x1 then Run d 198 2 [.inr (.inr (.inl 97)), .inl (wI (x0 + 1)), .inl x1] [] h else (if 0 ≤ (wI (3 * x0)) ∧ (wI (3 * x0)) < 24 then (if 0 ≤ (wI (3 * x1)) ∧ (wI (3 * x1)) < 24 then (if ¬ (h 105 (wI (3 * x0)).toNat) = (h 105 (wI (3 * x1)).toNat) then Run d 198 12 [.inr (.inr (.inl 97)), .inl x0, .inl (wI (x1 + 1))] [] h else some (some (.inl 0), h)) else none) else none)) := by
  refine (R_iload_n zf198_12 rfl rfl).trans ?_
  refine (R_iload_n zf198_13 rfl rfl).trans ?_
  refine (R_icmp_ge (t := 44) zf198_14 rfl rfl).trans ?_
  refine ite_congr rfl (fun c1_ => ?_) (fun c1_ => ?_)
  · refine (R_iinc (ls' := [.inr (.inr (.inl 97)), .inl (wI (x0 + 1)), .inl x1]) zf198_44 rfl rfl rfl).trans ?_
    refine (R_goto (t := 2) zf198_47 rfl).trans ?_
    rfl
  · refine (R_aload_n zf198_17 rfl zlt_97 rfl).trans ?_
    refine (R_getR zf198_18 zo_198 zfl_12_46 zk1_97 zft_12_21 zmr_97_21 rfl).trans ?_
    refine (R_iconst zf198_21 zw_3 rfl).trans ?_
    refine (R_iload_n zf198_22 rfl rfl).trans ?_
    refine (R_imul zf198_23 rfl).trans ?_
    refine (R_iald zf198_24 zk_105 rfl).trans ?_
    refine ite_congr rfl (fun c2_ => ?_) (fun _ => rfl)
    refine (R_aload_n zf198_25 rfl zlt_97 rfl).trans ?_
    refine (R_getR zf198_26 zo_198 zfl_12_46 zk1_97 zft_12_21 zmr_97_21 rfl).trans ?_
    refine (R_iconst zf198_29 zw_3 rfl).trans ?_
    refine (R_iload_n zf198_30 rfl rfl).trans ?_
    refine (R_imul zf198_31 rfl).trans ?_
    refine (R_iald zf198_32 zk_105 rfl).trans ?_
    refine ite_congr rfl (fun c3_ => ?_) (fun _ => rfl)
    refine (R_icmp_ne (t := 38) zf198_33 rfl rfl).trans ?_
    refine ite_congr rfl (fun c4_ => ?_) (fun c4_ => ?_)
    · refine (R_iinc (ls' := [.inr (.inr (.inl 97)), .inl x0, .inl (wI (x1 + 1))]) zf198_38 rfl rfl rfl).trans ?_
      refine (R_goto (t := 12) zf198_41 rfl).trans ?_
      rfl
    · refine (R_iconst zf198_36 zw_0 rfl).trans ?_
      exact R_ireturn zf198_37 (by rw [zr_198]; rfl)
-- CannonPostModel.readItems(I[IILjava/lang/String;)V at 3
theorem q190_3 (d : Nat) (x0 : Int) (x1 : Int) (x2 : Int) (z3 : MV) (hz3 : cat z3 = 1) (h : MH) : Run (d + 1) 190 3 [.inr (.inr (.inl 97)), .inl x0, .inr (.inr (.inl 107)), .inl x1, .inr (.inr (.inl 129)), .inl x2, z3] [] h = (cI (Run d 28 0 [.inr (.inr (.inl 129))] [] h) fun a2_ h1_ => (if a2_ ≤ x2 then (cI (Run d 188 0 [.inr (.inr (.inl 97))] [] h1_) fun a5_ h4_ => (cI (Run d 191 0 [.inr (.inr (.inl 129)), .inl a5_, vU] [] h4_) fun a7_ h6_ => Run (d + 1) 190 45 [.inr (.inr (.inl 97)), .inl x0, .inr (.inr (.inl 107)), .inl x1, .inr (.inr (.inl 129)), .inl 0, .inl a7_] [] h6_)) else (cI (Run d 186 0 [.inl x0, .inl x2] [] h1_) fun a9_ h8_ => (if 0 ≤ (wI (x1 + x2)) ∧ (wI (x1 + x2)) < 15 then Run (d + 1) 190 3 [.inr (.inr (.inl 97)), .inl x0, .inr (.inr (.inl 107)), .inl x1, .inr (.inr (.inl 129)), .inl (wI (x2 + 1)), z3] [] (up h8_ 107 (wI (x1 + x2)).toNat a9_) else none)))) := by
  refine (R_iload zf190_3 rfl rfl).trans ?_
  refine (R_aload zf190_5 rfl zlt_129 rfl).trans ?_
  refine (R_vcallI zf190_7 zo_190 zvl_12_99 (by rw [zr_28]; rfl) zl_28 (Nat.le_of_ble_eq_true rfl) rfl rfl (Nat.le_of_ble_eq_true rfl) (Nat.le_of_ble_eq_true rfl) (es := [.inr (.inr (.inl 129))]) rfl rfl zk1_129 zo_28).trans ?_
  refine congrArg (cI _) (funext fun a2_ => funext fun h1_ => ?_)
  refine (R_icmp_ge (t := 31) zf190_10 rfl rfl).trans ?_
  refine ite_congr rfl (fun c3_ => ?_) (fun c3_ => ?_)
  · refine (R_iconst zf190_31 zw_0 rfl).trans ?_
    refine (R_istore (ls' := [.inr (.inr (.inl 97)), .inl x0, .inr (.inr (.inl 107)), .inl x1, .inr (.inr (.inl 129)), .inl 0, z3]) zf190_32 (Nat.le_of_ble_eq_true rfl) rfl rfl).trans ?_
    refine (R_aload zf190_34 rfl zlt_129 rfl).trans ?_
    refine (R_aload_n zf190_36 rfl zlt_97 rfl).trans ?_
    refine (R_vcallI zf190_37 zo_190 zvl_12_138 (by rw [zr_188]; rfl) zl_188 (Nat.le_of_ble_eq_true rfl) rfl rfl (Nat.le_of_ble_eq_true rfl) (Nat.le_of_ble_eq_true rfl) (es := [.inr (.inr (.inl 97))]) rfl rfl zk1_97 zo_188).trans ?_
    refine congrArg (cI _) (funext fun a5_ => funext fun h4_ => ?_)
    refine (R_callI zf190_40 zo_190 zsl_12_225 (by rw [zr_191]; rfl) zl_191 (Nat.le_of_ble_eq_true rfl) rfl rfl (Nat.le_of_ble_eq_true rfl) (Nat.le_of_ble_eq_true rfl) (es := [.inr (.inr (.inl 129)), .inl a5_, vU]) rfl rfl).trans ?_
    refine congrArg (cI _) (funext fun a7_ => funext fun h6_ => ?_)
    refine (R_istore (ls' := [.inr (.inr (.inl 97)), .inl x0, .inr (.inr (.inl 107)), .inl x1, .inr (.inr (.inl 129)), .inl 0, .inl a7_]) zf190_43 (Nat.le_of_ble_eq_true rfl) rfl rfl).trans ?_
    rfl
  · refine (R_aload_n zf190_13 rfl zlt_107 rfl).trans ?_
    refine (R_iload_n zf190_14 rfl rfl).trans ?_
    refine (R_iload zf190_15 rfl rfl).trans ?_
    refine (R_iadd zf190_17 rfl).trans ?_
    refine (R_iload_n zf190_18 rfl rfl).trans ?_
    refine (R_iload zf190_19 rfl rfl).trans ?_
    refine (R_callI zf190_21 zo_190 zsl_12_221 (by rw [zr_186]; rfl) zl_186 (Nat.le_of_ble_eq_true rfl) rfl rfl (Nat.le_of_ble_eq_true rfl) (Nat.le_of_ble_eq_true rfl) (es := [.inl x0, .inl x2]) rfl rfl).trans ?_
    refine congrArg (cI _) (funext fun a9_ => funext fun h8_ => ?_)
    refine (R_iast zf190_24 zk_107 rfl).trans ?_
    refine ite_congr rfl (fun c10_ => ?_) (fun _ => rfl)
    refine (R_iinc (ls' := [.inr (.inr (.inl 97)), .inl x0, .inr (.inr (.inl 107)), .inl x1, .inr (.inr (.inl 129)), .inl (wI (x2 + 1)), z3]) zf190_25 rfl rfl rfl).trans ?_
    refine (R_goto (t := 3) zf190_28 rfl).trans ?_
    rfl
-- CannonPostModel.readItems(I[IILjava/lang/String;)V at 3
theorem q190_3_1 (d : Nat) (x0 : Int) (x1 : Int) (x2 : Int) (z3 : MV) (hz3 : cat z3 = 1) (h : MH) : Run (d + 1) 190 3 [.inr (.inr (.inl 97)), .inl x0, .inr (.inr (.inl 105)), .inl x1, .inr (.inr (.inl 128)), .inl x2, z3] [] h = (cI (Run d 28 0 [.inr (.inr (.inl 128))] [] h) fun a2_ h1_ => (if a2_ ≤ x2 then (cI (Run d 188 0 [.inr (.inr (.inl 97))] [] h1_) fun a5_ h4_ => (cI (Run d 191 0 [.inr (.inr (.inl 128)), .inl a5_, vU] [] h4_) fun a7_ h6_ => Run (d + 1) 190 45 [.inr (.inr (.inl 97)), .inl x0, .inr (.inr (.inl 105)), .inl x1, .inr (.inr (.inl 128)), .inl 0, .inl a7_] [] h6_)) else (cI (Run d 186 0 [.inl x0, .inl x2] [] h1_) fun a9_ h8_ => (if 0 ≤ (wI (x1 + x2)) ∧ (wI (x1 + x2)) < 24 then Run (d + 1) 190 3 [.inr (.inr (.inl 97)), .inl x0, .inr (.inr (.inl 105)), .inl x1, .inr (.inr (.inl 128)), .inl (wI (x2 + 1)), z3] [] (up h8_ 105 (wI (x1 + x2)).toNat a9_) else none)))) := by
  refine (R_iload zf190_3 rfl rfl).trans ?_
  refine (R_aload zf190_5 rfl zlt_128 rfl).trans ?_
  refine (R_vcallI zf190_7 zo_190 zvl_12_99 (by rw [zr_28]; rfl) zl_28 (Nat.le_of_ble_eq_true rfl) rfl rfl (Nat.le_of_ble_eq_true rfl) (Nat.le_of_ble_eq_true rfl) (es := [.inr (.inr (.inl 128))]) rfl rfl zk1_128 zo_28).trans ?_
  refine congrArg (cI _) (funext fun a2_ => funext fun h1_ => ?_)
  refine (R_icmp_ge (t := 31) zf190_10 rfl rfl).trans ?_
  refine ite_congr rfl (fun c3_ => ?_) (fun c3_ => ?_)
  · refine (R_iconst zf190_31 zw_0 rfl).trans ?_
    refine (R_istore (ls' := [.inr (.inr (.inl 97)), .inl x0, .inr (.inr (.inl 105)), .inl x1, .inr (.inr (.inl 128)), .inl 0, z3]) zf190_32 (Nat.le_of_ble_eq_true rfl) rfl rfl).trans ?_
    refine (R_aload zf190_34 rfl zlt_128 rfl).trans ?_
    refine (R_aload_n zf190_36 rfl zlt_97 rfl).trans ?_
    refine (R_vcallI zf190_37 zo_190 zvl_12_138 (by rw [zr_188]; rfl) zl_188 (Nat.le_of_ble_eq_true rfl) rfl rfl (Nat.le_of_ble_eq_true rfl) (Nat.le_of_ble_eq_true rfl) (es := [.inr (.inr (.inl 97))]) rfl rfl zk1_97 zo_188).trans ?_
    refine congrArg (cI _) (funext fun a5_ => funext fun h4_ => ?_)
    refine (R_callI zf190_40 zo_190 zsl_12_225 (by rw [zr_191]; rfl) zl_191 (Nat.le_of_ble_eq_true rfl) rfl rfl (Nat.le_of_ble_eq_true rfl) (Nat.le_of_ble_eq_true rfl) (es := [.inr (.inr (.inl 128)), .inl a5_, vU]) rfl rfl).trans ?_
    refine congrArg (cI _) (funext fun a7_ => funext fun h6_ => ?_)
    refine (R_istore (ls' := [.inr (.inr (.inl 97)), .inl x0, .inr (.inr (.inl 105)), .inl x1, .inr (.inr (.inl 128)), .inl 0, .inl a7_]) zf190_43 (Nat.le_of_ble_eq_true rfl) rfl rfl).trans ?_
    rfl
  · refine (R_aload_n zf190_13 rfl zlt_105 rfl).trans ?_
    refine (R_iload_n zf190_14 rfl rfl).trans ?_
    refine (R_iload zf190_15 rfl rfl).trans ?_
    refine (R_iadd zf190_17 rfl).trans ?_
    refine (R_iload_n zf190_18 rfl rfl).trans ?_
    refine (R_iload zf190_19 rfl rfl).trans ?_
    refine (R_callI zf190_21 zo_190 zsl_12_221 (by rw [zr_186]; rfl) zl_186 (Nat.le_of_ble_eq_true rfl) rfl rfl (Nat.le_of_ble_eq_true rfl) (Nat.le_of_ble_eq_true rfl) (es := [.inl x0, .inl x2]) rfl rfl).trans ?_
    refine congrArg (cI _) (funext fun a9_ => funext fun h8_ => ?_)
    refine (R_iast zf190_24 zk_105 rfl).trans ?_
    refine ite_congr rfl (fun c10_ => ?_) (fun _ => rfl)
    refine (R_iinc (ls' := [.inr (.inr (.inl 97)), .inl x0, .inr (.inr (.inl 105)), .inl x1, .inr (.inr (.inl 128)), .inl (wI (x2 + 1)), z3]) zf190_25 rfl rfl rfl).trans ?_
    refine (R_goto (t := 3) zf190_28 rfl).trans ?_
    rfl
-- CannonPostModel.readItems(I[IILjava/lang/String;)V at 3
theorem q190_3_2 (d : Nat) (x0 : Int) (x1 : Int) (x2 : Int) (z3 : MV) (hz3 : cat z3 = 1) (h : MH) : Run (d + 1) 190 3 [.inr (.inr (.inl 97)), .inl x0, .inr (.inr (.inl 103)), .inl x1, .inr (.inr (.inl 127)), .inl x2, z3] [] h = (cI (Run d 28 0 [.inr (.inr (.inl 127))] [] h) fun a2_ h1_ => (if a2_ ≤ x2 then (cI (Run d 188 0 [.inr (.inr (.inl 97))] [] h1_) fun a5_ h4_ => (cI (Run d 191 0 [.inr (.inr (.inl 127)), .inl a5_, vU] [] h4_) fun a7_ h6_ => Run (d + 1) 190 45 [.inr (.inr (.inl 97)), .inl x0, .inr (.inr (.inl 103)), .inl x1, .inr (.inr (.inl 127)), .inl 0, .inl a7_] [] h6_)) else (cI (Run d 186 0 [.inl x0, .inl x2] [] h1_) fun a9_ h8_ => (if 0 ≤ (wI (x1 + x2)) ∧ (wI (x1 + x2)) < 4 then Run (d + 1) 190 3 [.inr (.inr (.inl 97)), .inl x0, .inr (.inr (.inl 103)), .inl x1, .inr (.inr (.inl 127)), .inl (wI (x2 + 1)), z3] [] (up h8_ 103 (wI (x1 + x2)).toNat a9_) else none)))) := by
  refine (R_iload zf190_3 rfl rfl).trans ?_
  refine (R_aload zf190_5 rfl zlt_127 rfl).trans ?_
  refine (R_vcallI zf190_7 zo_190 zvl_12_99 (by rw [zr_28]; rfl) zl_28 (Nat.le_of_ble_eq_true rfl) rfl rfl (Nat.le_of_ble_eq_true rfl) (Nat.le_of_ble_eq_true rfl) (es := [.inr (.inr (.inl 127))]) rfl rfl zk1_127 zo_28).trans ?_
  refine congrArg (cI _) (funext fun a2_ => funext fun h1_ => ?_)
  refine (R_icmp_ge (t := 31) zf190_10 rfl rfl).trans ?_
  refine ite_congr rfl (fun c3_ => ?_) (fun c3_ => ?_)
  · refine (R_iconst zf190_31 zw_0 rfl).trans ?_
    refine (R_istore (ls' := [.inr (.inr (.inl 97)), .inl x0, .inr (.inr (.inl 103)), .inl x1, .inr (.inr (.inl 127)), .inl 0, z3]) zf190_32 (Nat.le_of_ble_eq_true rfl) rfl rfl).trans ?_
    refine (R_aload zf190_34 rfl zlt_127 rfl).trans ?_
    refine (R_aload_n zf190_36 rfl zlt_97 rfl).trans ?_
    refine (R_vcallI zf190_37 zo_190 zvl_12_138 (by rw [zr_188]; rfl) zl_188 (Nat.le_of_ble_eq_true rfl) rfl rfl (Nat.le_of_ble_eq_true rfl) (Nat.le_of_ble_eq_true rfl) (es := [.inr (.inr (.inl 97))]) rfl rfl zk1_97 zo_188).trans ?_
    refine congrArg (cI _) (funext fun a5_ => funext fun h4_ => ?_)
    refine (R_callI zf190_40 zo_190 zsl_12_225 (by rw [zr_191]; rfl) zl_191 (Nat.le_of_ble_eq_true rfl) rfl rfl (Nat.le_of_ble_eq_true rfl) (Nat.le_of_ble_eq_true rfl) (es := [.inr (.inr (.inl 127)), .inl a5_, vU]) rfl rfl).trans ?_
    refine congrArg (cI _) (funext fun a7_ => funext fun h6_ => ?_)
    refine (R_istore (ls' := [.inr (.inr (.inl 97)), .inl x0, .inr (.inr (.inl 103)), .inl x1, .inr (.inr (.inl 127)), .inl 0, .inl a7_]) zf190_43 (Nat.le_of_ble_eq_true rfl) rfl rfl).trans ?_
    rfl
  · refine (R_aload_n zf190_13 rfl zlt_103 rfl).trans ?_
    refine (R_iload_n zf190_14 rfl rfl).trans ?_
    refine (R_iload zf190_15 rfl rfl).trans ?_
    refine (R_iadd zf190_17 rfl).trans ?_
    refine (R_iload_n zf190_18 rfl rfl).trans ?_
    refine (R_iload zf190_19 rfl rfl).trans ?_
    refine (R_callI zf190_21 zo_190 zsl_12_221 (by rw [zr_186]; rfl) zl_186 (Nat.le_of_ble_eq_true rfl) rfl rfl (Nat.le_of_ble_eq_true rfl) (Nat.le_of_ble_eq_true rfl) (es := [.inl x0, .inl x2]) rfl rfl).trans ?_
    refine congrArg (cI _) (funext fun a9_ => funext fun h8_ => ?_)
    refine (R_iast zf190_24 zk_103 rfl).trans ?_
    refine ite_congr rfl (fun c10_ => ?_) (fun _ => rfl)
    refine (R_iinc (ls' := [.inr (.inr (.inl 97)), .inl x0, .inr (.inr (.inl 103)), .inl x1, .inr (.inr (.inl 127)), .inl (wI (x2 + 1)), z3]) zf190_25 rfl rfl rfl).trans ?_
    refine (R_goto (t := 3) zf190_28 rfl).trans ?_
    rfl
-- CannonPostModel.text(I)I at 356
theorem q216_356 (d : Nat) (z0 : MV) (hz0 : cat z0 = 1) (z1 : MV) (hz1 : cat z1 = 1) (x2 : Int) (h : MH) : Run (d + 1) 216 356 [.inr (.inr (.inl 97)), z0, z1, .inl x2] [] h = (if (h 97 27) ≤ x2 then some (some (.inl ((up (up (up (up (up (up (up h 110 31 (h 102 2)) 110 32 ((up h 110 31 (h 102 2)) 102 0)) 110 33 ((up (up h 110 31 (h 102 2)) 110 32 ((up h 110 31 (h 102 2)) 102 0)) 102 1)) 97 46 0) 97 49 0) 97 37 0) 97 51 0) 97 26)), (up (up (up (up (up (up (up h 110 31 (h 102 2)) 110 32 ((up h 110 31 (h 102 2)) 102 0)) 110 33 ((up (up h 110 31 (h 102 2)) 110 32 ((up h 110 31 (h 102 2)) 102 0)) 102 1)) 97 46 0) 97 49 0) 97 37 0) 97 51 0)) else (cI (Run d 217 0 [.inl x2] [] h) fun a3_ h2_ => (if 0 ≤ (wI ((wI (3 * x2)) + 2)) ∧ (wI ((wI (3 * x2)) + 2)) < 15 then (if 0 ≤ a3_ ∧ a3_ < 277 then Run (d + 1) 216 356 [.inr (.inr (.inl 97)), z0, z1, .inl (wI (x2 + 1))] [] (up h2_ 110 a3_.toNat (h2_ 106 (wI ((wI (3 * x2)) + 2)).toNat)) else none) else none))) := by
  refine (R_iload_n zf216_356 rfl rfl).trans ?_
  refine (R_aload_n zf216_357 rfl zlt_97 rfl).trans ?_
  refine (R_getI zf216_358 zo_216 zfl_12_297 zk1_97 zft_12_27 rfl).trans ?_
  refine (R_icmp_ge (t := 389) zf216_361 rfl rfl).trans ?_
  refine ite_congr rfl (fun c1_ => ?_) (fun c1_ => ?_)
  · refine (R_aload_n zf216_389 rfl zlt_97 rfl).trans ?_
    refine (R_getR zf216_390 zo_216 zfl_12_61 zk1_97 zft_12_32 zmr_97_32 rfl).trans ?_
    refine (R_bipush zf216_393 zb_31 rfl).trans ?_
    refine (R_aload_n zf216_395 rfl zlt_97 rfl).trans ?_
    refine (R_getR zf216_396 zo_216 zfl_12_37 zk1_97 zft_12_18 zmr_97_18 rfl).trans ?_
    refine (R_iconst zf216_399 zw_2 rfl).trans ?_
    refine (R_ialdc zf216_400 zk_102 (by decide) rfl rfl).trans ?_
    refine (R_iastc zf216_401 zk_110 (by decide) rfl rfl).trans ?_
    refine (R_aload_n zf216_402 rfl zlt_97 rfl).trans ?_
    refine (R_getR zf216_403 zo_216 zfl_12_61 zk1_97 zft_12_32 zmr_97_32 rfl).trans ?_
    refine (R_bipush zf216_406 zb_32 rfl).trans ?_
    refine (R_aload_n zf216_408 rfl zlt_97 rfl).trans ?_
    refine (R_getR zf216_409 zo_216 zfl_12_37 zk1_97 zft_12_18 zmr_97_18 rfl).trans ?_
    refine (R_iconst zf216_412 zw_0 rfl).trans ?_
    refine (R_ialdc zf216_413 zk_102 (by decide) rfl rfl).trans ?_
    refine (R_iastc zf216_414 zk_110 (by decide) rfl rfl).trans ?_
    refine (R_aload_n zf216_415 rfl zlt_97 rfl).trans ?_
    refine (R_getR zf216_416 zo_216 zfl_12_61 zk1_97 zft_12_32 zmr_97_32 rfl).trans ?_
    refine (R_bipush zf216_419 zb_33 rfl).trans ?_
    refine (R_aload_n zf216_421 rfl zlt_97 rfl).trans ?_
    refine (R_getR zf216_422 zo_216 zfl_12_37 zk1_97 zft_12_18 zmr_97_18 rfl).trans ?_
    refine (R_iconst zf216_425 zw_1 rfl).trans ?_
    refine (R_ialdc zf216_426 zk_102 (by decide) rfl rfl).trans ?_
    refine (R_iastc zf216_427 zk_110 (by decide) rfl rfl).trans ?_
    refine (R_aload_n zf216_428 rfl zlt_97 rfl).trans ?_
    refine (R_iconst zf216_429 zw_0 rfl).trans ?_
    refine (R_putI zf216_430 zo_216 zfl_12_303 zk1_97 zft_12_46 rfl).trans ?_
    refine (R_aload_n zf216_433 rfl zlt_97 rfl).trans ?_
    refine (R_iconst zf216_434 zw_0 rfl).trans ?_
    refine (R_putI zf216_435 zo_216 zfl_12_306 zk1_97 zft_12_49 rfl).trans ?_
    refine (R_aload_n zf216_438 rfl zlt_97 rfl).trans ?_
    refine (R_iconst zf216_439 zw_0 rfl).trans ?_
    refine (R_putI zf216_440 zo_216 zfl_12_309 zk1_97 zft_12_37 rfl).trans ?_
    refine (R_aload_n zf216_443 rfl zlt_97 rfl).trans ?_
    refine (R_iconst zf216_444 zw_0 rfl).trans ?_
    refine (R_putZ zf216_445 zo_216 zfl_12_312 zk1_97 zft_12_51 rfl rfl).trans ?_
    refine (R_aload_n zf216_448 rfl zlt_97 rfl).trans ?_
    refine (R_getI zf216_449 zo_216 zfl_12_294 zk1_97 zft_12_26 rfl).trans ?_
    exact R_ireturn_i zf216_452 zr_216
  · refine (R_aload_n zf216_364 rfl zlt_97 rfl).trans ?_
    refine (R_getR zf216_365 zo_216 zfl_12_61 zk1_97 zft_12_32 zmr_97_32 rfl).trans ?_
    refine (R_iload_n zf216_368 rfl rfl).trans ?_
    refine (R_callI zf216_369 zo_216 zsl_12_300 (by rw [zr_217]; rfl) zl_217 (Nat.le_of_ble_eq_true rfl) rfl rfl (Nat.le_of_ble_eq_true rfl) (Nat.le_of_ble_eq_true rfl) (es := [.inl x2]) rfl rfl).trans ?_
    refine congrArg (cI _) (funext fun a3_ => funext fun h2_ => ?_)
    refine (R_aload_n zf216_372 rfl zlt_97 rfl).trans ?_
    refine (R_getR zf216_373 zo_216 zfl_12_49 zk1_97 zft_12_22 zmr_97_22 rfl).trans ?_
    refine (R_iconst zf216_376 zw_3 rfl).trans ?_
    refine (R_iload_n zf216_377 rfl rfl).trans ?_
    refine (R_imul zf216_378 rfl).trans ?_
    refine (R_iconst zf216_379 zw_2 rfl).trans ?_
    refine (R_iadd zf216_380 rfl).trans ?_
    refine (R_iald zf216_381 zk_106 rfl).trans ?_
    refine ite_congr rfl (fun c4_ => ?_) (fun _ => rfl)
    refine (R_iast zf216_382 zk_110 rfl).trans ?_
    refine ite_congr rfl (fun c5_ => ?_) (fun _ => rfl)
    refine (R_iinc (ls' := [.inr (.inr (.inl 97)), z0, z1, .inl (wI (x2 + 1))]) zf216_383 rfl (st1_z rfl hz1 rfl) rfl).trans ?_
    refine (R_goto (t := 356) zf216_386 rfl).trans ?_
    rfl
-- CannonPostModel.canKnow(III)Z at 31
theorem q276_31 (d : Nat) (x0 : Int) (x1 : Int) (x2 : Int) (x3 : Int) (x4 : Int) (h : MH) : Run (d + 1) 276 31 [.inr (.inr (.inl 97)), .inl x0, .inl x1, .inl x2, .inl x3, .inl x4] [] h = (if (h 97 26) ≤ x4 then Run (d + 1) 276 19 [.inr (.inr (.inl 97)), .inl x0, .inl x1, .inl x2, .inl (wI (x3 + 1)), .inl x4] [] h else (cI (Run d 228 0 [.inr (.inr (.inl 97)), .inr (.inr (.inl 110)), .inl x3] [] h) fun a3_ h2_ => (if a3_ = 0 then Run (d + 1) 276 19 [.inr (.inr (.inl 97)), .inl x0, .inl x1, .inl x2, .inl (wI (x3 + 1)), .inl x4] [] h2_ else (cI (Run d 275 0 [.inr (.inr (.inl 97)), .inl x3, .inl x4, .inl x0, .inl x1, .inl x2, vU, vU] [] h2_) fun a6_ h5_ => (if a6_ = 0 then Run (d + 1) 276 31 [.inr (.inr (.inl 97)), .inl x0, .inl x1, .inl x2, .inl x3, .inl (wI (x4 + 1))] [] h5_ else some (some (.inl 1), h5_)))))) := by
  refine (R_iload zf276_31 rfl rfl).trans ?_
  refine (R_aload_n zf276_33 rfl zlt_97 rfl).trans ?_
  refine (R_getI zf276_34 zo_276 zfl_12_294 zk1_97 zft_12_26 rfl).trans ?_
  refine (R_icmp_ge (t := 75) zf276_37 rfl rfl).trans ?_
  refine ite_congr rfl (fun c1_ => ?_) (fun c1_ => ?_)
  · refine (R_iinc (ls' := [.inr (.inr (.inl 97)), .inl x0, .inl x1, .inl x2, .inl (wI (x3 + 1)), .inl x4]) zf276_75 rfl rfl rfl).trans ?_
    refine (R_goto (t := 19) zf276_78 rfl).trans ?_
    rfl
  · refine (R_aload_n zf276_40 rfl zlt_97 rfl).trans ?_
    refine (R_aload_n zf276_41 rfl zlt_97 rfl).trans ?_
    refine (R_getR zf276_42 zo_276 zfl_12_61 zk1_97 zft_12_32 zmr_97_32 rfl).trans ?_
    refine (R_iload zf276_45 rfl rfl).trans ?_
    refine (R_vcallI zf276_47 zo_276 zvl_12_342 (by rw [zr_228]; rfl) zl_228 (Nat.le_of_ble_eq_true rfl) rfl rfl (Nat.le_of_ble_eq_true rfl) (Nat.le_of_ble_eq_true rfl) (es := [.inr (.inr (.inl 97)), .inr (.inr (.inl 110)), .inl x3]) rfl rfl zk1_97 zo_228).trans ?_
    refine congrArg (cI _) (funext fun a3_ => funext fun h2_ => ?_)
    refine (R_if_eq (t := 75) zf276_50 rfl rfl).trans ?_
    refine ite_congr rfl (fun c4_ => ?_) (fun c4_ => ?_)
    · refine (R_iinc (ls' := [.inr (.inr (.inl 97)), .inl x0, .inl x1, .inl x2, .inl (wI (x3 + 1)), .inl x4]) zf276_75 rfl rfl rfl).trans ?_
      refine (R_goto (t := 19) zf276_78 rfl).trans ?_
      rfl
    · refine (R_aload_n zf276_53 rfl zlt_97 rfl).trans ?_
      refine (R_iload zf276_54 rfl rfl).trans ?_
      refine (R_iload zf276_56 rfl rfl).trans ?_
      refine (R_iload_n zf276_58 rfl rfl).trans ?_
      refine (R_iload_n zf276_59 rfl rfl).trans ?_
      refine (R_iload_n zf276_60 rfl rfl).trans ?_
      refine (R_vcallI zf276_61 zo_276 zvl_12_474 (by rw [zr_275]; rfl) zl_275 (Nat.le_of_ble_eq_true rfl) rfl rfl (Nat.le_of_ble_eq_true rfl) (Nat.le_of_ble_eq_true rfl) (es := [.inr (.inr (.inl 97)), .inl x3, .inl x4, .inl x0, .inl x1, .inl x2, vU, vU]) rfl rfl zk1_97 zo_275).trans ?_
      refine congrArg (cI _) (funext fun a6_ => funext fun h5_ => ?_)
      refine (R_if_eq (t := 69) zf276_64 rfl rfl).trans ?_
      refine ite_congr rfl (fun c7_ => ?_) (fun c7_ => ?_)
      · refine (R_iinc (ls' := [.inr (.inr (.inl 97)), .inl x0, .inl x1, .inl x2, .inl x3, .inl (wI (x4 + 1))]) zf276_69 rfl rfl rfl).trans ?_
        refine (R_goto (t := 31) zf276_72 rfl).trans ?_
        rfl
      · refine (R_iconst zf276_67 zw_1 rfl).trans ?_
        exact R_ireturn zf276_68 (by rw [zr_276]; rfl)
-- CannonPost$LeagueReader.readItems([IIII)Z at 19
theorem q9_19_2 (d : Nat) (x0 : Int) (x1 : Int) (x2 : Int) (x3 : Int) (x4 : Int) (z5 : MV) (hz5 : cat z5 = 1) (z6 : MV) (hz6 : cat z6 = 1) (h : MH) : Run (d + 1) 9 19 [.inr (.inr (.inl 3)), .inr (.inr (.inl 21)), .inl x0, .inl x1, .inl x2, .inl x3, .inl x4, z5, z6] [] h = (if (wI (x2 - x1)) < x4 then some (some (.inl 0), h) else (cI (Run d 8 0 [.inr (.inr (.inl 1))] [] h) fun a3_ h2_ => (cI (Run d 10 0 [.inl a3_, .inl x1, .inl x2, vU] [] h2_) fun a5_ h4_ => (if ¬ a5_ = (-1) then (if (iAnd (iShr x3 a5_) 1) = 0 then (cI (Run d 8 0 [.inr (.inr (.inl 1))] [] (up h4_ 1 2 (wI ((h4_ 1 2) + 1)))) fun a9_ h8_ => (cI (Run d 16 0 [.inr (.inr (.inl 1)), .inl 2, vU, vU] [] h8_) fun a11_ h10_ => (if ¬ a11_ = (-1) then (if 0 ≤ a5_ ∧ a5_ < 10 then (if a11_ < (ro 122 a5_.toNat) then some (some (.inl 0), (up h10_ 1 2 (wI ((h10_ 1 2) - 1)))) else (if 0 ≤ a5_ ∧ a5_ < 10 then (if a11_ ≤ (ro 123 a5_.toNat) then (if 0 ≤ (wI ((wI (x0 + a5_)) - x1)) ∧ (wI ((wI (x0 + a5_)) - x1)) < 15 then Run (d + 1) 9 19 [.inr (.inr (.inl 3)), .inr (.inr (.inl 21)), .inl x0, .inl x1, .inl x2, .inl (iOr x3 (iShl 1 a5_)), .inl (wI (x4 + 1)), .inl a5_, .inl a11_] [] (up h10_ 21 (wI ((wI (x0 + a5_)) - x1)).toNat a11_) else none) else some (some (.inl 0), (up h10_ 1 2 (wI ((h10_ 1 2) - 1))))) else none)) else none) else some (some (.inl 0), h10_)))) else some (some (.inl 0), h4_)) else some (some (.inl 1), h4_))))) := by
  refine (R_iload zf9_19 rfl rfl).trans ?_
  refine (R_iload zf9_21 rfl rfl).trans ?_
  refine (R_iload_n zf9_23 rfl rfl).trans ?_
  refine (R_isub zf9_24 rfl).trans ?_
  refine (R_icmp_gt (t := 164) zf9_25 rfl rfl).trans ?_
  refine ite_congr rfl (fun c1_ => ?_) (fun c1_ => ?_)
  · refine (R_iconst zf9_164 zw_0 rfl).trans ?_
    exact R_ireturn zf9_165 (by rw [zr_9]; rfl)
  · refine (R_aload_n zf9_28 rfl zlt_3 rfl).trans ?_
    refine (R_getR zf9_29 zo_9 zfl_6_18 zk1_3 zft_6_1 zmr_3_1 rfl).trans ?_
    refine (R_vcallI zf9_32 zo_9 zvl_6_58 (by rw [zr_8]; rfl) zl_8 (Nat.le_of_ble_eq_true rfl) rfl rfl (Nat.le_of_ble_eq_true rfl) (Nat.le_of_ble_eq_true rfl) (es := [.inr (.inr (.inl 1))]) rfl rfl zk1_1 zo_8).trans ?_
    refine congrArg (cI _) (funext fun a3_ => funext fun h2_ => ?_)
    refine (R_iload_n zf9_35 rfl rfl).trans ?_
    refine (R_iload zf9_36 rfl rfl).trans ?_
    refine (R_callI zf9_38 zo_9 zsl_6_79 (by rw [zr_10]; rfl) zl_10 (Nat.le_of_ble_eq_true rfl) rfl rfl (Nat.le_of_ble_eq_true rfl) (Nat.le_of_ble_eq_true rfl) (es := [.inl a3_, .inl x1, .inl x2, vU]) rfl rfl).trans ?_
    refine congrArg (cI _) (funext fun a5_ => funext fun h4_ => ?_)
    refine (R_istore (ls' := [.inr (.inr (.inl 3)), .inr (.inr (.inl 21)), .inl x0, .inl x1, .inl x2, .inl x3, .inl x4, .inl a5_, z6]) zf9_41 (Nat.le_of_ble_eq_true rfl) rfl rfl).trans ?_
    refine (R_iload zf9_43 rfl rfl).trans ?_
    refine (R_iconst zf9_45 zw_m1 rfl).trans ?_
    refine (R_icmp_ne (t := 51) zf9_46 rfl rfl).trans ?_
    refine ite_congr rfl (fun c6_ => ?_) (fun c6_ => ?_)
    · refine (R_iload zf9_51 rfl rfl).trans ?_
      refine (R_iload zf9_53 rfl rfl).trans ?_
      refine (R_ishr zf9_55 rfl).trans ?_
      refine (R_iconst zf9_56 zw_1 rfl).trans ?_
      refine (R_iand zf9_57 rfl).trans ?_
      refine (R_if_eq (t := 63) zf9_58 rfl rfl).trans ?_
      refine ite_congr rfl (fun c7_ => ?_) (fun c7_ => ?_)
      · refine (R_iload zf9_63 rfl rfl).trans ?_
        refine (R_iconst zf9_65 zw_1 rfl).trans ?_
        refine (R_iload zf9_66 rfl rfl).trans ?_
        refine (R_ishl zf9_68 rfl).trans ?_
        refine (R_ior zf9_69 rfl).trans ?_
        refine (R_istore (ls' := [.inr (.inr (.inl 3)), .inr (.inr (.inl 21)), .inl x0, .inl x1, .inl x2, .inl (iOr x3 (iShl 1 a5_)), .inl x4, .inl a5_, z6]) zf9_70 (Nat.le_of_ble_eq_true rfl) rfl rfl).trans ?_
        refine (R_aload_n zf9_72 rfl zlt_3 rfl).trans ?_
        refine (R_getR zf9_73 zo_9 zfl_6_18 zk1_3 zft_6_1 zmr_3_1 rfl).trans ?_
        refine (R_dup zf9_76 rfl rfl).trans ?_
        refine (R_getI zf9_77 zo_9 zfl_6_22 zk1_1 zft_10_2 rfl).trans ?_
        refine (R_iconst zf9_80 zw_1 rfl).trans ?_
        refine (R_iadd zf9_81 rfl).trans ?_
        refine (R_putI zf9_82 zo_9 zfl_6_22 zk1_1 zft_10_2 rfl).trans ?_
        refine (R_aload_n zf9_85 rfl zlt_3 rfl).trans ?_
        refine (R_getR zf9_86 zo_9 zfl_6_18 zk1_3 zft_6_1 zmr_3_1 rfl).trans ?_
        refine (R_vcallI zf9_89 zo_9 zvl_6_58 (by rw [zr_8]; rfl) zl_8 (Nat.le_of_ble_eq_true rfl) rfl rfl (Nat.le_of_ble_eq_true rfl) (Nat.le_of_ble_eq_true rfl) (es := [.inr (.inr (.inl 1))]) rfl rfl zk1_1 zo_8).trans ?_
        refine congrArg (cI _) (funext fun a9_ => funext fun h8_ => ?_)
        refine (R_pop zf9_92 rfl rfl).trans ?_
        refine (R_aload_n zf9_93 rfl zlt_3 rfl).trans ?_
        refine (R_getR zf9_94 zo_9 zfl_6_18 zk1_3 zft_6_1 zmr_3_1 rfl).trans ?_
        refine (R_iconst zf9_97 zw_2 rfl).trans ?_
        refine (R_vcallI zf9_98 zo_9 zvl_6_83 (by rw [zr_16]; rfl) zl_16 (Nat.le_of_ble_eq_true rfl) rfl rfl (Nat.le_of_ble_eq_true rfl) (Nat.le_of_ble_eq_true rfl) (es := [.inr (.inr (.inl 1)), .inl 2, vU, vU]) rfl rfl zk1_1 zo_16).trans ?_
        refine congrArg (cI _) (funext fun a11_ => funext fun h10_ => ?_)
        refine (R_istore (ls' := [.inr (.inr (.inl 3)), .inr (.inr (.inl 21)), .inl x0, .inl x1, .inl x2, .inl (iOr x3 (iShl 1 a5_)), .inl x4, .inl a5_, .inl a11_]) zf9_101 (Nat.le_of_ble_eq_true rfl) rfl rfl).trans ?_
        refine (R_iload zf9_103 rfl rfl).trans ?_
        refine (R_iconst zf9_105 zw_m1 rfl).trans ?_
        refine (R_icmp_ne (t := 111) zf9_106 rfl rfl).trans ?_
        refine ite_congr rfl (fun c12_ => ?_) (fun c12_ => ?_)
        · refine (R_iload zf9_111 rfl rfl).trans ?_
          refine (R_getsR zf9_113 zo_9 zgl_6_87 rfl).trans ?_
          refine (R_iload zf9_116 rfl rfl).trans ?_
          refine (R_iald110 zf9_118 zk_122 rfl).trans ?_
          refine ite_congr rfl (fun c13_ => ?_) (fun _ => rfl)
          refine (R_icmp_lt (t := 133) zf9_119 rfl rfl).trans ?_
          refine ite_congr rfl (fun c14_ => ?_) (fun c14_ => ?_)
          · refine (R_aload_n zf9_133 rfl zlt_3 rfl).trans ?_
            refine (R_getR zf9_134 zo_9 zfl_6_18 zk1_3 zft_6_1 zmr_3_1 rfl).trans ?_
            refine (R_dup zf9_137 rfl rfl).trans ?_
            refine (R_getI zf9_138 zo_9 zfl_6_22 zk1_1 zft_10_2 rfl).trans ?_
            refine (R_iconst zf9_141 zw_1 rfl).trans ?_
            refine (R_isub zf9_142 rfl).trans ?_
            refine (R_putI zf9_143 zo_9 zfl_6_22 zk1_1 zft_10_2 rfl).trans ?_
            refine (R_iconst zf9_146 zw_0 rfl).trans ?_
            exact R_ireturn zf9_147 (by rw [zr_9]; rfl)
          · refine (R_iload zf9_122 rfl rfl).trans ?_
            refine (R_getsR zf9_124 zo_9 zgl_6_90 rfl).trans ?_
            refine (R_iload zf9_127 rfl rfl).trans ?_
            refine (R_iald110 zf9_129 zk_123 rfl).trans ?_
            refine ite_congr rfl (fun c15_ => ?_) (fun _ => rfl)
            refine (R_icmp_le (t := 148) zf9_130 rfl rfl).trans ?_
            refine ite_congr rfl (fun c16_ => ?_) (fun c16_ => ?_)
            · refine (R_aload_n zf9_148 rfl zlt_21 rfl).trans ?_
              refine (R_iload_n zf9_149 rfl rfl).trans ?_
              refine (R_iload zf9_150 rfl rfl).trans ?_
              refine (R_iadd zf9_152 rfl).trans ?_
              refine (R_iload_n zf9_153 rfl rfl).trans ?_
              refine (R_isub zf9_154 rfl).trans ?_
              refine (R_iload zf9_155 rfl rfl).trans ?_
              refine (R_iast zf9_157 zk_21 rfl).trans ?_
              refine ite_congr rfl (fun c17_ => ?_) (fun _ => rfl)
              refine (R_iinc (ls' := [.inr (.inr (.inl 3)), .inr (.inr (.inl 21)), .inl x0, .inl x1, .inl x2, .inl (iOr x3 (iShl 1 a5_)), .inl (wI (x4 + 1)), .inl a5_, .inl a11_]) zf9_158 rfl rfl rfl).trans ?_
              refine (R_goto (t := 19) zf9_161 rfl).trans ?_
              rfl
            · refine (R_aload_n zf9_133 rfl zlt_3 rfl).trans ?_
              refine (R_getR zf9_134 zo_9 zfl_6_18 zk1_3 zft_6_1 zmr_3_1 rfl).trans ?_
              refine (R_dup zf9_137 rfl rfl).trans ?_
              refine (R_getI zf9_138 zo_9 zfl_6_22 zk1_1 zft_10_2 rfl).trans ?_
              refine (R_iconst zf9_141 zw_1 rfl).trans ?_
              refine (R_isub zf9_142 rfl).trans ?_
              refine (R_putI zf9_143 zo_9 zfl_6_22 zk1_1 zft_10_2 rfl).trans ?_
              refine (R_iconst zf9_146 zw_0 rfl).trans ?_
              exact R_ireturn zf9_147 (by rw [zr_9]; rfl)
        · refine (R_iconst zf9_109 zw_0 rfl).trans ?_
          exact R_ireturn zf9_110 (by rw [zr_9]; rfl)
      · refine (R_iconst zf9_61 zw_0 rfl).trans ?_
        exact R_ireturn zf9_62 (by rw [zr_9]; rfl)
    · refine (R_iconst zf9_49 zw_1 rfl).trans ?_
      exact R_ireturn zf9_50 (by rw [zr_9]; rfl)
-- CannonPost$LeagueReader.itemOf(III)I at 2
theorem q10_2 (d : Nat) (x0 : Int) (z1 : MV) (hz1 : cat z1 = 1) (x2 : Int) (x3 : Int) (h : MH) : Run (d + 1) 10 2 [.inl x0, z1, .inl x2, .inl x3] [] h = (if x2 ≤ x3 then some (some (.inl (-1)), h) else (cI (Run d 11 0 [.inr (.inr (.inl 124)), .inl x3] [] h) fun a3_ h2_ => (if ¬ a3_ = x0 then Run (d + 1) 10 2 [.inl x0, z1, .inl x2, .inl (wI (x3 + 1))] [] h2_ else some (some (.inl x3), h2_)))) := by
  refine (R_iload_n zf10_2 rfl rfl).trans ?_
  refine (R_iload_n zf10_3 rfl rfl).trans ?_
  refine (R_icmp_ge (t := 25) zf10_4 rfl rfl).trans ?_
  refine ite_congr rfl (fun c1_ => ?_) (fun c1_ => ?_)
  · refine (R_iconst zf10_25 zw_m1 rfl).trans ?_
    exact R_ireturn_i zf10_26 zr_10
  · refine (R_ldcS zf10_7 zo_10 zcl_6_93 zrl_6_93 rfl).trans ?_
    refine (R_iload_n zf10_9 rfl rfl).trans ?_
    refine (R_vcallI zf10_10 zo_10 zvl_6_95 (by rw [zr_11]; rfl) zl_11 (Nat.le_of_ble_eq_true rfl) rfl rfl (Nat.le_of_ble_eq_true rfl) (Nat.le_of_ble_eq_true rfl) (es := [.inr (.inr (.inl 124)), .inl x3]) rfl rfl zk1_124 zo_11).trans ?_
    refine congrArg (cI _) (funext fun a3_ => funext fun h2_ => ?_)
    refine (R_iload_n zf10_13 rfl rfl).trans ?_
    refine (R_icmp_ne (t := 19) zf10_14 rfl rfl).trans ?_
    refine ite_congr rfl (fun c4_ => ?_) (fun c4_ => ?_)
    · refine (R_iinc (ls' := [.inl x0, z1, .inl x2, .inl (wI (x3 + 1))]) zf10_19 rfl rfl rfl).trans ?_
      refine (R_goto (t := 2) zf10_22 rfl).trans ?_
      rfl
    · refine (R_iload_n zf10_17 rfl rfl).trans ?_
      exact R_ireturn_i zf10_18 zr_10
-- CannonPost$Tape.number(I)I at 4
theorem q16_4 (d : Nat) (x0 : Int) (x1 : Int) (x2 : Int) (h : MH) : Run d 16 4 [.inr (.inr (.inl 1)), .inl x0, .inl x1, .inl x2] [] h = (if x0 < x2 then (if ¬ x2 = 0 then some (some (.inl x1), h) else some (some (.inl (-1)), h)) else (if (h 1 1) ≤ (h 1 2) then (if ¬ x2 = 0 then some (some (.inl x1), h) else some (some (.inl (-1)), h)) else (if 0 ≤ (h 1 2) ∧ (h 1 2) < 240 then (if (h 15 (h 1 2).toNat) < 48 then (if ¬ x2 = 0 then some (some (.inl x1), h) else some (some (.inl (-1)), h)) else (if 0 ≤ (h 1 2) ∧ (h 1 2) < 240 then (if 57 < (h 15 (h 1 2).toNat) then (if ¬ x2 = 0 then some (some (.inl x1), h) else some (some (.inl (-1)), h)) else (if ¬ x2 = x0 then (if 0 ≤ (h 1 2) ∧ (h 1 2) < 240 then Run d 16 4 [.inr (.inr (.inl 1)), .inl x0, .inl (wI ((wI ((wI (x1 * 10)) + (h 15 (h 1 2).toNat))) - 48)), .inl (wI (x2 + 1))] [] (up h 1 2 (wI ((h 1 2) + 1))) else none) else some (some (.inl (-1)), h))) else none)) else none))) := by
  refine (R_iload_n zf16_4 rfl rfl).trans ?_
  refine (R_iload_n zf16_5 rfl rfl).trans ?_
  refine (R_icmp_gt (t := 89) zf16_6 rfl rfl).trans ?_
  refine ite_congr rfl (fun c1_ => ?_) (fun c1_ => ?_)
  · refine (R_iload_n zf16_89 rfl rfl).trans ?_
    refine (R_if_ne (t := 97) zf16_90 rfl rfl).trans ?_
    refine ite_congr rfl (fun c2_ => ?_) (fun c2_ => ?_)
    · refine (R_iload_n zf16_97 rfl rfl).trans ?_
      exact R_ireturn_i zf16_98 zr_16
    · refine (R_iconst zf16_93 zw_m1 rfl).trans ?_
      refine (R_goto (t := 98) zf16_94 rfl).trans ?_
      exact R_ireturn_i zf16_98 zr_16
  · refine (R_aload_n zf16_9 rfl zlt_1 rfl).trans ?_
    refine (R_getI zf16_10 zo_16 zfl_10_19 zk1_1 zft_10_2 rfl).trans ?_
    refine (R_aload_n zf16_13 rfl zlt_1 rfl).trans ?_
    refine (R_getI zf16_14 zo_16 zfl_10_15 zk1_1 zft_10_1 rfl).trans ?_
    refine (R_icmp_ge (t := 89) zf16_17 rfl rfl).trans ?_
    refine ite_congr rfl (fun c3_ => ?_) (fun c3_ => ?_)
    · refine (R_iload_n zf16_89 rfl rfl).trans ?_
      refine (R_if_ne (t := 97) zf16_90 rfl rfl).trans ?_
      refine ite_congr rfl (fun c4_ => ?_) (fun c4_ => ?_)
      · refine (R_iload_n zf16_97 rfl rfl).trans ?_
        exact R_ireturn_i zf16_98 zr_16
      · refine (R_iconst zf16_93 zw_m1 rfl).trans ?_
        refine (R_goto (t := 98) zf16_94 rfl).trans ?_
        exact R_ireturn_i zf16_98 zr_16
    · refine (R_aload_n zf16_20 rfl zlt_1 rfl).trans ?_
      refine (R_getR zf16_21 zo_16 zfl_10_11 zk1_1 zft_10_0 zmr_1_0 rfl).trans ?_
      refine (R_aload_n zf16_24 rfl zlt_1 rfl).trans ?_
      refine (R_getI zf16_25 zo_16 zfl_10_19 zk1_1 zft_10_2 rfl).trans ?_
      refine (R_bald zf16_28 zk_15 rfl).trans ?_
      refine ite_congr rfl (fun c5_ => ?_) (fun _ => rfl)
      refine (R_bipush zf16_29 zb_48 rfl).trans ?_
      refine (R_icmp_lt (t := 89) zf16_31 rfl rfl).trans ?_
      refine ite_congr rfl (fun c6_ => ?_) (fun c6_ => ?_)
      · refine (R_iload_n zf16_89 rfl rfl).trans ?_
        refine (R_if_ne (t := 97) zf16_90 rfl rfl).trans ?_
        refine ite_congr rfl (fun c7_ => ?_) (fun c7_ => ?_)
        · refine (R_iload_n zf16_97 rfl rfl).trans ?_
          exact R_ireturn_i zf16_98 zr_16
        · refine (R_iconst zf16_93 zw_m1 rfl).trans ?_
          refine (R_goto (t := 98) zf16_94 rfl).trans ?_
          exact R_ireturn_i zf16_98 zr_16
      · refine (R_aload_n zf16_34 rfl zlt_1 rfl).trans ?_
        refine (R_getR zf16_35 zo_16 zfl_10_11 zk1_1 zft_10_0 zmr_1_0 rfl).trans ?_
        refine (R_aload_n zf16_38 rfl zlt_1 rfl).trans ?_
        refine (R_getI zf16_39 zo_16 zfl_10_19 zk1_1 zft_10_2 rfl).trans ?_
        refine (R_bald zf16_42 zk_15 rfl).trans ?_
        refine ite_congr rfl (fun c8_ => ?_) (fun _ => rfl)
        refine (R_bipush zf16_43 zb_57 rfl).trans ?_
        refine (R_icmp_gt (t := 89) zf16_45 rfl rfl).trans ?_
        refine ite_congr rfl (fun c9_ => ?_) (fun c9_ => ?_)
        · refine (R_iload_n zf16_89 rfl rfl).trans ?_
          refine (R_if_ne (t := 97) zf16_90 rfl rfl).trans ?_
          refine ite_congr rfl (fun c10_ => ?_) (fun c10_ => ?_)
          · refine (R_iload_n zf16_97 rfl rfl).trans ?_
            exact R_ireturn_i zf16_98 zr_16
          · refine (R_iconst zf16_93 zw_m1 rfl).trans ?_
            refine (R_goto (t := 98) zf16_94 rfl).trans ?_
            exact R_ireturn_i zf16_98 zr_16
        · refine (R_iload_n zf16_48 rfl rfl).trans ?_
          refine (R_iload_n zf16_49 rfl rfl).trans ?_
          refine (R_icmp_ne (t := 55) zf16_50 rfl rfl).trans ?_
          refine ite_congr rfl (fun c11_ => ?_) (fun c11_ => ?_)
          · refine (R_iload_n zf16_55 rfl rfl).trans ?_
            refine (R_bipush zf16_56 zb_10 rfl).trans ?_
            refine (R_imul zf16_58 rfl).trans ?_
            refine (R_aload_n zf16_59 rfl zlt_1 rfl).trans ?_
            refine (R_getR zf16_60 zo_16 zfl_10_11 zk1_1 zft_10_0 zmr_1_0 rfl).trans ?_
            refine (R_aload_n zf16_63 rfl zlt_1 rfl).trans ?_
            refine (R_getI zf16_64 zo_16 zfl_10_19 zk1_1 zft_10_2 rfl).trans ?_
            refine (R_bald zf16_67 zk_15 rfl).trans ?_
            refine ite_congr rfl (fun c12_ => ?_) (fun _ => rfl)
            refine (R_iadd zf16_68 rfl).trans ?_
            refine (R_bipush zf16_69 zb_48 rfl).trans ?_
            refine (R_isub zf16_71 rfl).trans ?_
            refine (R_istore_n (ls' := [.inr (.inr (.inl 1)), .inl x0, .inl (wI ((wI ((wI (x1 * 10)) + (h 15 (h 1 2).toNat))) - 48)), .inl x2]) zf16_72 (Nat.le_of_ble_eq_true rfl) rfl rfl).trans ?_
            refine (R_aload_n zf16_73 rfl zlt_1 rfl).trans ?_
            refine (R_dup zf16_74 rfl rfl).trans ?_
            refine (R_getI zf16_75 zo_16 zfl_10_19 zk1_1 zft_10_2 rfl).trans ?_
            refine (R_iconst zf16_78 zw_1 rfl).trans ?_
            refine (R_iadd zf16_79 rfl).trans ?_
            refine (R_putI zf16_80 zo_16 zfl_10_19 zk1_1 zft_10_2 rfl).trans ?_
            refine (R_iinc (ls' := [.inr (.inr (.inl 1)), .inl x0, .inl (wI ((wI ((wI (x1 * 10)) + (h 15 (h 1 2).toNat))) - 48)), .inl (wI (x2 + 1))]) zf16_83 rfl rfl rfl).trans ?_
            refine (R_goto (t := 4) zf16_86 rfl).trans ?_
            rfl
          · refine (R_iconst zf16_53 zw_m1 rfl).trans ?_
            exact R_ireturn_i zf16_54 zr_16
-- CannonPost$LawReader.readUnit(IZ)Z at 116
theorem q37_116 (d : Nat) (x0 : Int) (z1 : MV) (hz1 : cat z1 = 1) (z2 : MV) (hz2 : cat z2 = 1) (z3 : MV) (hz3 : cat z3 = 1) (h : MH) : Run (d + 1) 37 116 [.inr (.inr (.inl 5)), .inl x0, z1, z2, z3] [] h = (cI (Run d 8 0 [.inr (.inr (.inl 1))] [] h) fun a2_ h1_ => (cI (Run d 35 0 [.inl a2_] [] h1_) fun a4_ h3_ => (if ¬ a4_ = (-1) then (cI (Run d 24 0 [.inr (.inr (.inl 5)), .inl x0, vU, vU, vU, vU] [] (up h3_ 1 2 (wI ((h3_ 1 2) + 1)))) fun a7_ h6_ => (if ¬ a7_ = 0 then (cV (Run d 33 0 [.inr (.inr (.inl 5)), .inl a4_, .inl 0] [] h6_) fun h9_ => some (some (.inl 1), h9_)) else some (some (.inl 0), h6_))) else some (some (.inl 0), h3_)))) := by
  refine (R_aload_n zf37_116 rfl zlt_5 rfl).trans ?_
  refine (R_getR zf37_117 zo_37 zfl_3_17 zk1_5 zft_3_2 zmr_5_2 rfl).trans ?_
  refine (R_vcallI zf37_120 zo_37 zvl_3_32 (by rw [zr_8]; rfl) zl_8 (Nat.le_of_ble_eq_true rfl) rfl rfl (Nat.le_of_ble_eq_true rfl) (Nat.le_of_ble_eq_true rfl) (es := [.inr (.inr (.inl 1))]) rfl rfl zk1_1 zo_8).trans ?_
  refine congrArg (cI _) (funext fun a2_ => funext fun h1_ => ?_)
  refine (R_callI zf37_123 zo_37 zsl_3_44 (by rw [zr_35]; rfl) zl_35 (Nat.le_of_ble_eq_true rfl) rfl rfl (Nat.le_of_ble_eq_true rfl) (Nat.le_of_ble_eq_true rfl) (es := [.inl a2_]) rfl rfl).trans ?_
  refine congrArg (cI _) (funext fun a4_ => funext fun h3_ => ?_)
  refine (R_istore (ls' := [.inr (.inr (.inl 5)), .inl x0, z1, z2, .inl a4_]) zf37_126 (Nat.le_of_ble_eq_true rfl) (st1_z rfl hz2 rfl) rfl).trans ?_
  refine (R_iload zf37_128 rfl rfl).trans ?_
  refine (R_iconst zf37_130 zw_m1 rfl).trans ?_
  refine (R_icmp_ne (t := 136) zf37_131 rfl rfl).trans ?_
  refine ite_congr rfl (fun c5_ => ?_) (fun c5_ => ?_)
  · refine (R_aload_n zf37_136 rfl zlt_5 rfl).trans ?_
    refine (R_getR zf37_137 zo_37 zfl_3_17 zk1_5 zft_3_2 zmr_5_2 rfl).trans ?_
    refine (R_dup zf37_140 rfl rfl).trans ?_
    refine (R_getI zf37_141 zo_37 zfl_3_21 zk1_1 zft_10_2 rfl).trans ?_
    refine (R_iconst zf37_144 zw_1 rfl).trans ?_
    refine (R_iadd zf37_145 rfl).trans ?_
    refine (R_putI zf37_146 zo_37 zfl_3_21 zk1_1 zft_10_2 rfl).trans ?_
    refine (R_aload_n zf37_149 rfl zlt_5 rfl).trans ?_
    refine (R_iload_n zf37_150 rfl rfl).trans ?_
    refine (R_vcallI zf37_151 zo_37 zvl_3_40 (by rw [zr_24]; rfl) zl_24 (Nat.le_of_ble_eq_true rfl) rfl rfl (Nat.le_of_ble_eq_true rfl) (Nat.le_of_ble_eq_true rfl) (es := [.inr (.inr (.inl 5)), .inl x0, vU, vU, vU, vU]) rfl rfl zk1_5 zo_24).trans ?_
    refine congrArg (cI _) (funext fun a7_ => funext fun h6_ => ?_)
    refine (R_if_ne (t := 159) zf37_154 rfl rfl).trans ?_
    refine ite_congr rfl (fun c8_ => ?_) (fun c8_ => ?_)
    · refine (R_aload_n zf37_159 rfl zlt_5 rfl).trans ?_
      refine (R_iload zf37_160 rfl rfl).trans ?_
      refine (R_iconst zf37_162 zw_0 rfl).trans ?_
      refine (R_vcallV zf37_163 zo_37 zvl_3_50 zr_33 zl_33 (Nat.le_of_ble_eq_true rfl) rfl rfl (Nat.le_of_ble_eq_true rfl) (Nat.le_of_ble_eq_true rfl) (es := [.inr (.inr (.inl 5)), .inl a4_, .inl 0]) rfl rfl zk1_5 zo_33).trans ?_
      refine congrArg (cV _) (funext fun h9_ => ?_)
      refine (R_iconst zf37_166 zw_1 rfl).trans ?_
      exact R_ireturn zf37_167 (by rw [zr_37]; rfl)
    · refine (R_iconst zf37_157 zw_0 rfl).trans ?_
      exact R_ireturn zf37_158 (by rw [zr_37]; rfl)
  · refine (R_iconst zf37_134 zw_0 rfl).trans ?_
    exact R_ireturn zf37_135 (by rw [zr_37]; rfl)
-- CannonPost$LawReader.readUnit(IZ)Z at 24
theorem q37_24 (d : Nat) (x0 : Int) (z1 : MV) (hz1 : cat z1 = 1) (x2 : Int) (z3 : MV) (hz3 : cat z3 = 1) (h : MH) : Run (d + 1) 37 24 [.inr (.inr (.inl 5)), .inl x0, z1, .inl x2, z3] [] h = (if x0 < 6 then (if ¬ x2 = 40 then (cI (Run d 37 0 [.inr (.inr (.inl 5)), .inl (wI (x0 + 1)), .inl 0, vU, vU] [] (up h 1 2 (wI ((h 1 2) + 1)))) fun a4_ h3_ => (if ¬ a4_ = 0 then (cV (Run d 33 0 [.inr (.inr (.inl 5)), .inl 11, .inl 0] [] h3_) fun h6_ => some (some (.inl 1), h6_)) else some (some (.inl 0), h3_))) else (cI (Run d 36 0 [.inr (.inr (.inl 5)), .inl (wI (x0 + 1)), .inl 0, vU, vU, vU] [] (up h 1 2 (wI ((h 1 2) + 1)))) fun a8_ h7_ => (if a8_ = 0 then some (some (.inl 0), h7_) else (cI (Run d 21 0 [.inr (.inr (.inl 1)), .inl 41] [] h7_) fun a11_ h10_ => (if a11_ = 0 then some (some (.inl 0), h10_) else some (some (.inl 1), h10_)))))) else some (some (.inl 0), h)) := by
  refine (R_iload_n zf37_24 rfl rfl).trans ?_
  refine (R_bipush zf37_25 zb_6 rfl).trans ?_
  refine (R_icmp_lt (t := 32) zf37_27 rfl rfl).trans ?_
  refine ite_congr rfl (fun c1_ => ?_) (fun c1_ => ?_)
  · refine (R_aload_n zf37_32 rfl zlt_5 rfl).trans ?_
    refine (R_getR zf37_33 zo_37 zfl_3_17 zk1_5 zft_3_2 zmr_5_2 rfl).trans ?_
    refine (R_dup zf37_36 rfl rfl).trans ?_
    refine (R_getI zf37_37 zo_37 zfl_3_21 zk1_1 zft_10_2 rfl).trans ?_
    refine (R_iconst zf37_40 zw_1 rfl).trans ?_
    refine (R_iadd zf37_41 rfl).trans ?_
    refine (R_putI zf37_42 zo_37 zfl_3_21 zk1_1 zft_10_2 rfl).trans ?_
    refine (R_iload_n zf37_45 rfl rfl).trans ?_
    refine (R_bipush zf37_46 zb_40 rfl).trans ?_
    refine (R_icmp_ne (t := 80) zf37_48 rfl rfl).trans ?_
    refine ite_congr rfl (fun c2_ => ?_) (fun c2_ => ?_)
    · refine (R_aload_n zf37_80 rfl zlt_5 rfl).trans ?_
      refine (R_iload_n zf37_81 rfl rfl).trans ?_
      refine (R_iconst zf37_82 zw_1 rfl).trans ?_
      refine (R_iadd zf37_83 rfl).trans ?_
      refine (R_iconst zf37_84 zw_0 rfl).trans ?_
      refine (R_vcallI zf37_85 zo_37 zvl_3_58 (by rw [zr_37]; rfl) zl_37 (Nat.le_of_ble_eq_true rfl) rfl rfl (Nat.le_of_ble_eq_true rfl) (Nat.le_of_ble_eq_true rfl) (es := [.inr (.inr (.inl 5)), .inl (wI (x0 + 1)), .inl 0, vU, vU]) rfl rfl zk1_5 zo_37).trans ?_
      refine congrArg (cI _) (funext fun a4_ => funext fun h3_ => ?_)
      refine (R_if_ne (t := 93) zf37_88 rfl rfl).trans ?_
      refine ite_congr rfl (fun c5_ => ?_) (fun c5_ => ?_)
      · refine (R_aload_n zf37_93 rfl zlt_5 rfl).trans ?_
        refine (R_bipush zf37_94 zb_11 rfl).trans ?_
        refine (R_iconst zf37_96 zw_0 rfl).trans ?_
        refine (R_vcallV zf37_97 zo_37 zvl_3_50 zr_33 zl_33 (Nat.le_of_ble_eq_true rfl) rfl rfl (Nat.le_of_ble_eq_true rfl) (Nat.le_of_ble_eq_true rfl) (es := [.inr (.inr (.inl 5)), .inl 11, .inl 0]) rfl rfl zk1_5 zo_33).trans ?_
        refine congrArg (cV _) (funext fun h6_ => ?_)
        refine (R_iconst zf37_100 zw_1 rfl).trans ?_
        exact R_ireturn zf37_101 (by rw [zr_37]; rfl)
      · refine (R_iconst zf37_91 zw_0 rfl).trans ?_
        exact R_ireturn zf37_92 (by rw [zr_37]; rfl)
    · refine (R_aload_n zf37_51 rfl zlt_5 rfl).trans ?_
      refine (R_iload_n zf37_52 rfl rfl).trans ?_
      refine (R_iconst zf37_53 zw_1 rfl).trans ?_
      refine (R_iadd zf37_54 rfl).trans ?_
      refine (R_iconst zf37_55 zw_0 rfl).trans ?_
      refine (R_vcallI zf37_56 zo_37 zvl_3_54 (by rw [zr_36]; rfl) zl_36 (Nat.le_of_ble_eq_true rfl) rfl rfl (Nat.le_of_ble_eq_true rfl) (Nat.le_of_ble_eq_true rfl) (es := [.inr (.inr (.inl 5)), .inl (wI (x0 + 1)), .inl 0, vU, vU, vU]) rfl rfl zk1_5 zo_36).trans ?_
      refine congrArg (cI _) (funext fun a8_ => funext fun h7_ => ?_)
      refine (R_if_eq (t := 78) zf37_59 rfl rfl).trans ?_
      refine ite_congr rfl (fun c9_ => ?_) (fun c9_ => ?_)
      · refine (R_iconst zf37_78 zw_0 rfl).trans ?_
        exact R_ireturn zf37_79 (by rw [zr_37]; rfl)
      · refine (R_aload_n zf37_62 rfl zlt_5 rfl).trans ?_
        refine (R_getR zf37_63 zo_37 zfl_3_17 zk1_5 zft_3_2 zmr_5_2 rfl).trans ?_
        refine (R_bipush zf37_66 zb_41 rfl).trans ?_
        refine (R_vcallI zf37_68 zo_37 zvl_3_36 (by rw [zr_21]; rfl) zl_21 (Nat.le_of_ble_eq_true rfl) rfl rfl (Nat.le_of_ble_eq_true rfl) (Nat.le_of_ble_eq_true rfl) (es := [.inr (.inr (.inl 1)), .inl 41]) rfl rfl zk1_1 zo_21).trans ?_
        refine congrArg (cI _) (funext fun a11_ => funext fun h10_ => ?_)
        refine (R_if_eq (t := 78) zf37_71 rfl rfl).trans ?_
        refine ite_congr rfl (fun c12_ => ?_) (fun c12_ => ?_)
        · refine (R_iconst zf37_78 zw_0 rfl).trans ?_
          exact R_ireturn zf37_79 (by rw [zr_37]; rfl)
        · refine (R_iconst zf37_74 zw_1 rfl).trans ?_
          refine (R_goto (t := 79) zf37_75 rfl).trans ?_
          exact R_ireturn zf37_79 (by rw [zr_37]; rfl)
  · refine (R_iconst zf37_30 zw_0 rfl).trans ?_
    exact R_ireturn zf37_31 (by rw [zr_37]; rfl)
-- CannonPost$LawReader.readCondition(IZ)Z at 55
theorem q36_55 (d : Nat) (x0 : Int) (z1 : MV) (hz1 : cat z1 = 1) (x2 : Int) (x3 : Int) (x4 : Int) (h : MH) : Run (d + 1) 36 55 [.inr (.inr (.inl 5)), .inl x0, z1, .inl x2, .inl x3, .inl x4] [] h = (if x4 = 0 then (if ¬ x2 = 0 then Run (d + 1) 36 85 [.inr (.inr (.inl 5)), .inl x0, z1, .inl x2, .inl x3, .inl x4] [.inl 1] h else (if x4 = 0 then Run (d + 1) 36 85 [.inr (.inr (.inl 5)), .inl x0, z1, .inl x2, .inl x3, .inl x4] [.inl 0] h else Run (d + 1) 36 85 [.inr (.inr (.inl 5)), .inl x0, z1, .inl x2, .inl x3, .inl x4] [.inl 1] h)) else (if x2 = 0 then (if ¬ x2 = 0 then Run (d + 1) 36 85 [.inr (.inr (.inl 5)), .inl x0, z1, .inl x2, .inl x3, .inl x4] [.inl 1] h else (if x4 = 0 then Run (d + 1) 36 85 [.inr (.inr (.inl 5)), .inl x0, z1, .inl x2, .inl x3, .inl x4] [.inl 0] h else Run (d + 1) 36 85 [.inr (.inr (.inl 5)), .inl x0, z1, .inl x2, .inl x3, .inl x4] [.inl 1] h)) else (cV (Run d 33 0 [.inr (.inr (.inl 5)), .inl 10, .inl 0] [] h) fun h7_ => (if ¬ x2 = 0 then Run (d + 1) 36 85 [.inr (.inr (.inl 5)), .inl x0, z1, .inl x2, .inl x3, .inl x4] [.inl 1] h7_ else (if x4 = 0 then Run (d + 1) 36 85 [.inr (.inr (.inl 5)), .inl x0, z1, .inl x2, .inl x3, .inl x4] [.inl 0] h7_ else Run (d + 1) 36 85 [.inr (.inr (.inl 5)), .inl x0, z1, .inl x2, .inl x3, .inl x4] [.inl 1] h7_))))) := by
  refine (R_iload zf36_55 rfl rfl).trans ?_
  refine (R_if_eq (t := 71) zf36_57 rfl rfl).trans ?_
  refine ite_congr rfl (fun c1_ => ?_) (fun c1_ => ?_)
  · refine (R_iload_n zf36_71 rfl rfl).trans ?_
    refine (R_if_ne (t := 80) zf36_72 rfl rfl).trans ?_
    refine ite_congr rfl (fun c2_ => ?_) (fun c2_ => ?_)
    · refine (R_iconst zf36_80 zw_1 rfl).trans ?_
      refine (R_goto (t := 85) zf36_81 rfl).trans ?_
      rfl
    · refine (R_iload zf36_75 rfl rfl).trans ?_
      refine (R_if_eq (t := 84) zf36_77 rfl rfl).trans ?_
      refine ite_congr rfl (fun c3_ => ?_) (fun c3_ => ?_)
      · refine (R_iconst zf36_84 zw_0 rfl).trans ?_
        rfl
      · refine (R_iconst zf36_80 zw_1 rfl).trans ?_
        refine (R_goto (t := 85) zf36_81 rfl).trans ?_
        rfl
  · refine (R_iload_n zf36_60 rfl rfl).trans ?_
    refine (R_if_eq (t := 71) zf36_61 rfl rfl).trans ?_
    refine ite_congr rfl (fun c4_ => ?_) (fun c4_ => ?_)
    · refine (R_iload_n zf36_71 rfl rfl).trans ?_
      refine (R_if_ne (t := 80) zf36_72 rfl rfl).trans ?_
      refine ite_congr rfl (fun c5_ => ?_) (fun c5_ => ?_)
      · refine (R_iconst zf36_80 zw_1 rfl).trans ?_
        refine (R_goto (t := 85) zf36_81 rfl).trans ?_
        rfl
      · refine (R_iload zf36_75 rfl rfl).trans ?_
        refine (R_if_eq (t := 84) zf36_77 rfl rfl).trans ?_
        refine ite_congr rfl (fun c6_ => ?_) (fun c6_ => ?_)
        · refine (R_iconst zf36_84 zw_0 rfl).trans ?_
          rfl
        · refine (R_iconst zf36_80 zw_1 rfl).trans ?_
          refine (R_goto (t := 85) zf36_81 rfl).trans ?_
          rfl
    · refine (R_aload_n zf36_64 rfl zlt_5 rfl).trans ?_
      refine (R_bipush zf36_65 zb_10 rfl).trans ?_
      refine (R_iconst zf36_67 zw_0 rfl).trans ?_
      refine (R_vcallV zf36_68 zo_36 zvl_3_50 zr_33 zl_33 (Nat.le_of_ble_eq_true rfl) rfl rfl (Nat.le_of_ble_eq_true rfl) (Nat.le_of_ble_eq_true rfl) (es := [.inr (.inr (.inl 5)), .inl 10, .inl 0]) rfl rfl zk1_5 zo_33).trans ?_
      refine congrArg (cV _) (funext fun h7_ => ?_)
      refine (R_iload_n zf36_71 rfl rfl).trans ?_
      refine (R_if_ne (t := 80) zf36_72 rfl rfl).trans ?_
      refine ite_congr rfl (fun c8_ => ?_) (fun c8_ => ?_)
      · refine (R_iconst zf36_80 zw_1 rfl).trans ?_
        refine (R_goto (t := 85) zf36_81 rfl).trans ?_
        rfl
      · refine (R_iload zf36_75 rfl rfl).trans ?_
        refine (R_if_eq (t := 84) zf36_77 rfl rfl).trans ?_
        refine ite_congr rfl (fun c9_ => ?_) (fun c9_ => ?_)
        · refine (R_iconst zf36_84 zw_0 rfl).trans ?_
          rfl
        · refine (R_iconst zf36_80 zw_1 rfl).trans ?_
          refine (R_goto (t := 85) zf36_81 rfl).trans ?_
          rfl
-- java/lang/String.indexOf(II)I at 0
theorem q27_0 (d : Nat) (x0 : Int) (x1 : Int) (h : MH) : Run (d + 1) 27 0 [.inr (.inr (.inl 125)), .inl x0, .inl x1] [] h = (cI (Run d 12 0 [.inr (.inr (.inl 125))] [] h) fun a2_ h1_ => (if a2_ = 0 then (cI (Run d 28 0 [.inr (.inr (.inl 125))] [] h1_) fun a5_ h4_ => Run (d + 1) 27 33 [.inr (.inr (.inl 125)), .inl x0, .inl x1] [.inl a5_, .inl x1, .inl x0, .inr (.inr (.inl 132))] h4_) else (cI (Run d 28 0 [.inr (.inr (.inl 125))] [] h1_) fun a7_ h6_ => (cI (Run d 30 0 [.inr (.inr (.inl 132)), .inl x0, .inl x1, .inl a7_] [] h6_) fun a9_ h8_ => some (some (.inl a9_), h8_))))) := by
  refine (R_aload_n zf27_0 rfl zlt_125 rfl).trans ?_
  refine (R_vcallI zf27_1 zo_27 zvl_13_492 (by rw [zr_12]; rfl) zl_12 (Nat.le_of_ble_eq_true rfl) rfl rfl (Nat.le_of_ble_eq_true rfl) (Nat.le_of_ble_eq_true rfl) (es := [.inr (.inr (.inl 125))]) rfl rfl zk1_125 zo_12).trans ?_
  refine congrArg (cI _) (funext fun a2_ => funext fun h1_ => ?_)
  refine (R_if_eq (t := 23) zf27_4 rfl rfl).trans ?_
  refine ite_congr rfl (fun c3_ => ?_) (fun c3_ => ?_)
  · refine (R_aload_n zf27_23 rfl zlt_125 rfl).trans ?_
    refine (R_getR zf27_24 zo_27 zfl_13_9 zk1_125 zft_13_0 zmr_125_0 rfl).trans ?_
    refine (R_iload_n zf27_27 rfl rfl).trans ?_
    refine (R_iload_n zf27_28 rfl rfl).trans ?_
    refine (R_aload_n zf27_29 rfl zlt_125 rfl).trans ?_
    refine (R_vcallI zf27_30 zo_27 zvl_13_505 (by rw [zr_28]; rfl) zl_28 (Nat.le_of_ble_eq_true rfl) rfl rfl (Nat.le_of_ble_eq_true rfl) (Nat.le_of_ble_eq_true rfl) (es := [.inr (.inr (.inl 125))]) rfl rfl zk1_125 zo_28).trans ?_
    refine congrArg (cI _) (funext fun a5_ => funext fun h4_ => ?_)
    rfl
  · refine (R_aload_n zf27_7 rfl zlt_125 rfl).trans ?_
    refine (R_getR zf27_8 zo_27 zfl_13_9 zk1_125 zft_13_0 zmr_125_0 rfl).trans ?_
    refine (R_iload_n zf27_11 rfl rfl).trans ?_
    refine (R_iload_n zf27_12 rfl rfl).trans ?_
    refine (R_aload_n zf27_13 rfl zlt_125 rfl).trans ?_
    refine (R_vcallI zf27_14 zo_27 zvl_13_505 (by rw [zr_28]; rfl) zl_28 (Nat.le_of_ble_eq_true rfl) rfl rfl (Nat.le_of_ble_eq_true rfl) (Nat.le_of_ble_eq_true rfl) (es := [.inr (.inr (.inl 125))]) rfl rfl zk1_125 zo_28).trans ?_
    refine congrArg (cI _) (funext fun a7_ => funext fun h6_ => ?_)
    refine (R_callI zf27_17 zo_27 zsl_13_637 (by rw [zr_30]; rfl) zl_30 (Nat.le_of_ble_eq_true rfl) rfl rfl (Nat.le_of_ble_eq_true rfl) (Nat.le_of_ble_eq_true rfl) (es := [.inr (.inr (.inl 132)), .inl x0, .inl x1, .inl a7_]) rfl rfl).trans ?_
    refine congrArg (cI _) (funext fun a9_ => funext fun h8_ => ?_)
    refine (R_goto (t := 36) zf27_20 rfl).trans ?_
    exact R_ireturn_i zf27_36 zr_27
-- CannonPost$Lawbook.joined(III)I at 151
theorem q85_151 (d : Nat) (z0 : MV) (hz0 : cat z0 = 1) (z1 : MV) (hz1 : cat z1 = 1) (z2 : MV) (hz2 : cat z2 = 1) (x3 : Int) (z4 : MV) (hz4 : cat z4 = 1) (h : MH) : Run d 85 151 [z0, z1, z2, .inr (.inl x3), z4] [] h = (if (cmpL x3 1000000) ≤ 0 then (if 0 ≤ (cmpL x3 (-1000000)) then some (some (.inl (wI x3)), h) else some (some (.inl (-1000000)), h)) else some (some (.inl 1000000), h)) := by
  refine (R_lload_n zf85_151 rfl rfl).trans ?_
  refine (R_ldc2_w zf85_152 zo_85 zll_4_55 rfl).trans ?_
  refine (R_lcmp zf85_155 rfl).trans ?_
  refine (R_if_le (t := 162) zf85_156 rfl rfl).trans ?_
  refine ite_congr rfl (fun c1_ => ?_) (fun c1_ => ?_)
  · refine (R_lload_n zf85_162 rfl rfl).trans ?_
    refine (R_ldc2_w zf85_163 zo_85 zll_4_58 rfl).trans ?_
    refine (R_lcmp zf85_166 rfl).trans ?_
    refine (R_if_ge (t := 175) zf85_167 rfl rfl).trans ?_
    refine ite_congr rfl (fun c2_ => ?_) (fun c2_ => ?_)
    · refine (R_lload_n zf85_175 rfl rfl).trans ?_
      refine (R_l2i zf85_176 rfl).trans ?_
      exact R_ireturn_i zf85_177 zr_85
    · refine (R_ldc zf85_170 zo_85 zcl_4_60 rfl).trans ?_
      refine (R_goto (t := 177) zf85_172 rfl).trans ?_
      exact R_ireturn_i zf85_177 zr_85
  · refine (R_ldc zf85_159 zo_85 zcl_4_57 rfl).trans ?_
    exact R_ireturn_i zf85_161 zr_85
-- CannonPost$Paths.offer(IIII)V at 46
theorem q129_46 (d : Nat) (x0 : Int) (x1 : Int) (x2 : Int) (x3 : Int) (z4 : MV) (hz4 : cat z4 = 1) (y5 : Int) (h : MH) : Run d 129 46 [.inr (.inr (.inl 9)), .inl x0, .inl x1, .inl x2, .inl x3, z4] [.inl y5] h = (if y5 = 0 then some (none, h) else (if 0 ≤ x0 ∧ x0 < 8 then (if 0 ≤ x0 ∧ x0 < 8 then (if 0 ≤ x0 ∧ x0 < 8 then some (none, (up (up (up h 40 x0.toNat x1) 41 x0.toNat x2) 42 x0.toNat x3)) else none) else none) else none)) := by
  refine (R_istore (ls' := [.inr (.inr (.inl 9)), .inl x0, .inl x1, .inl x2, .inl x3, .inl y5]) zf129_46 (Nat.le_of_ble_eq_true rfl) rfl rfl).trans ?_
  refine (R_iload zf129_48 rfl rfl).trans ?_
  refine (R_if_eq (t := 75) zf129_50 rfl rfl).trans ?_
  refine ite_congr rfl (fun c1_ => ?_) (fun c1_ => ?_)
  · exact R_return zf129_75 zr_129
  · refine (R_aload_n zf129_53 rfl zlt_9 rfl).trans ?_
    refine (R_getR zf129_54 zo_129 zfl_7_11 zk1_9 zft_7_0 zmr_9_0 rfl).trans ?_
    refine (R_iload_n zf129_57 rfl rfl).trans ?_
    refine (R_iload_n zf129_58 rfl rfl).trans ?_
    refine (R_iast zf129_59 zk_40 rfl).trans ?_
    refine ite_congr rfl (fun c2_ => ?_) (fun _ => rfl)
    refine (R_aload_n zf129_60 rfl zlt_9 rfl).trans ?_
    refine (R_getR zf129_61 zo_129 zfl_7_17 zk1_9 zft_7_1 zmr_9_1 rfl).trans ?_
    refine (R_iload_n zf129_64 rfl rfl).trans ?_
    refine (R_iload_n zf129_65 rfl rfl).trans ?_
    refine (R_iast zf129_66 zk_41 rfl).trans ?_
    refine ite_congr rfl (fun c3_ => ?_) (fun _ => rfl)
    refine (R_aload_n zf129_67 rfl zlt_9 rfl).trans ?_
    refine (R_getR zf129_68 zo_129 zfl_7_20 zk1_9 zft_7_2 zmr_9_2 rfl).trans ?_
    refine (R_iload_n zf129_71 rfl rfl).trans ?_
    refine (R_iload zf129_72 rfl rfl).trans ?_
    refine (R_iast zf129_74 zk_42 rfl).trans ?_
    refine ite_congr rfl (fun c4_ => ?_) (fun _ => rfl)
    exact R_return zf129_75 zr_129
-- java/lang/String.coder()B at 0
theorem q29_0_1 (d : Nat) (h : MH) : Run d 29 0 [.inr (.inr (.inl 130))] [] h = some (some (.inl 0), h) := by
  refine (R_getsI (u := 1) zf29_0 zo_29 zgl_13_38 rfl rfl).trans ?_
  refine ((R_if_eq (t := 13) zf29_3 rfl rfl).trans (if_neg (by decide))).trans ?_
  refine (R_aload_n zf29_6 rfl zlt_130 rfl).trans ?_
  refine (R_getC zf29_7 zo_29 zfl_13_15 zk1_130 zft_13_1 rfl).trans ?_
  refine (R_goto (t := 14) zf29_10 rfl).trans ?_
  exact R_ireturn zf29_14 (by rw [zr_29]; rfl)
-- java/lang/String.isLatin1()Z at 0
theorem q12_0_1 (d : Nat) (h : MH) : Run d 12 0 [.inr (.inr (.inl 130))] [] h = some (some (.inl 1), h) := by
  refine (R_getsI (u := 1) zf12_0 zo_12 zgl_13_38 rfl rfl).trans ?_
  refine ((R_if_eq (t := 17) zf12_3 rfl rfl).trans (if_neg (by decide))).trans ?_
  refine (R_aload_n zf12_6 rfl zlt_130 rfl).trans ?_
  refine (R_getC zf12_7 zo_12 zfl_13_15 zk1_130 zft_13_1 rfl).trans ?_
  refine ((R_if_ne (t := 17) zf12_10 rfl rfl).trans (if_neg (by decide))).trans ?_
  refine (R_iconst zf12_13 zw_1 rfl).trans ?_
  refine (R_goto (t := 18) zf12_14 rfl).trans ?_
  exact R_ireturn zf12_18 (by rw [zr_12]; rfl)
-- java/lang/StringLatin1.charAt([BI)C at 0
theorem q13_0_1 (d : Nat) (x0 : Int) (h : MH) : Run (d + 1) 13 0 [.inr (.inr (.inl 137)), .inl x0] [] h = (cV (Run d 14 0 [.inl x0, .inl 4] [] h) fun h1_ => (if 0 ≤ x0 ∧ x0 < 4 then (if 0 ≤ (toC (iAnd (ro 137 x0.toNat) 255)) ∧ (toC (iAnd (ro 137 x0.toNat) 255)) ≤ 65535 then some (some (.inl (toC (iAnd (ro 137 x0.toNat) 255))), h1_) else none) else none)) := by
  refine (R_iload_n zf13_0 rfl rfl).trans ?_
  refine (R_aload_n zf13_1 rfl zlt_137 rfl).trans ?_
  refine (R_len111 (v := 4) zf13_2 zk_137 rfl rfl).trans ?_
  refine (R_callV zf13_3 zo_13 zsl_14_9 zr_14 zl_14 (Nat.le_of_ble_eq_true rfl) rfl rfl (Nat.le_of_ble_eq_true rfl) (Nat.le_of_ble_eq_true rfl) (es := [.inl x0, .inl 4]) rfl rfl).trans ?_
  refine congrArg (cV _) (funext fun h1_ => ?_)
  refine (R_aload_n zf13_6 rfl zlt_137 rfl).trans ?_
  refine (R_iload_n zf13_7 rfl rfl).trans ?_
  refine (R_bald111 zf13_8 zk_137 rfl).trans ?_
  refine ite_congr rfl (fun c2_ => ?_) (fun _ => rfl)
  refine (R_sipush zf13_9 zs_255 rfl).trans ?_
  refine (R_iand zf13_12 rfl).trans ?_
  refine (R_i2c zf13_13 rfl).trans ?_
  exact R_ireturn_c zf13_14 zr_13
-- java/lang/String.checkIndex(II)V at 0
theorem q14_0 (d : Nat) (x0 : Int) (x1 : Int) (h : MH) : Run (d + 1) 14 0 [.inl x0, .inl x1] [] h = (cI (Run d 15 0 [.inl x0, .inl x1, .inr (.inr (.inl 999))] [] h) fun a2_ h1_ => some (none, h1_)) := by
  refine (R_iload_n zf14_0 rfl rfl).trans ?_
  refine (R_iload_n zf14_1 rfl rfl).trans ?_
  refine (R_getsR zf14_2 zo_14 zgl_13_1053 rfl).trans ?_
  refine (R_callI zf14_5 zo_14 zsl_13_1059 (by rw [zr_15]; rfl) zl_15 (Nat.le_of_ble_eq_true rfl) rfl rfl (Nat.le_of_ble_eq_true rfl) (Nat.le_of_ble_eq_true rfl) (es := [.inl x0, .inl x1, .inr (.inr (.inl 999))]) rfl rfl).trans ?_
  refine congrArg (cI _) (funext fun a2_ => funext fun h1_ => ?_)
  refine (R_pop zf14_8 rfl rfl).trans ?_
  exact R_return zf14_9 zr_14
-- CannonPostModel.isAmong(Ljava/lang/String;I)Z at 2
theorem q201_2_1 (d : Nat) (x0 : Int) (x1 : Int) (h : MH) : Run (d + 1) 201 2 [.inr (.inr (.inl 125)), .inl x0, .inl x1] [] h = (cI (Run d 28 0 [.inr (.inr (.inl 125))] [] h) fun a2_ h1_ => (if a2_ ≤ x1 then some (some (.inl 0), h1_) else (cI (Run d 11 0 [.inr (.inr (.inl 125)), .inl x1] [] h1_) fun a5_ h4_ => (if ¬ a5_ = x0 then Run (d + 1) 201 2 [.inr (.inr (.inl 125)), .inl x0, .inl (wI (x1 + 1))] [] h4_ else some (some (.inl 1), h4_))))) := by
  refine (R_iload_n zf201_2 rfl rfl).trans ?_
  refine (R_aload_n zf201_3 rfl zlt_125 rfl).trans ?_
  refine (R_vcallI zf201_4 zo_201 zvl_12_99 (by rw [zr_28]; rfl) zl_28 (Nat.le_of_ble_eq_true rfl) rfl rfl (Nat.le_of_ble_eq_true rfl) (Nat.le_of_ble_eq_true rfl) (es := [.inr (.inr (.inl 125))]) rfl rfl zk1_125 zo_28).trans ?_
  refine congrArg (cI _) (funext fun a2_ => funext fun h1_ => ?_)
  refine (R_icmp_ge (t := 27) zf201_7 rfl rfl).trans ?_
  refine ite_congr rfl (fun c3_ => ?_) (fun c3_ => ?_)
  · refine (R_iconst zf201_27 zw_0 rfl).trans ?_
    exact R_ireturn zf201_28 (by rw [zr_201]; rfl)
  · refine (R_aload_n zf201_10 rfl zlt_125 rfl).trans ?_
    refine (R_iload_n zf201_11 rfl rfl).trans ?_
    refine (R_vcallI zf201_12 zo_201 zvl_12_105 (by rw [zr_11]; rfl) zl_11 (Nat.le_of_ble_eq_true rfl) rfl rfl (Nat.le_of_ble_eq_true rfl) (Nat.le_of_ble_eq_true rfl) (es := [.inr (.inr (.inl 125)), .inl x1]) rfl rfl zk1_125 zo_11).trans ?_
    refine congrArg (cI _) (funext fun a5_ => funext fun h4_ => ?_)
    refine (R_iload_n zf201_15 rfl rfl).trans ?_
    refine (R_icmp_ne (t := 21) zf201_16 rfl rfl).trans ?_
    refine ite_congr rfl (fun c6_ => ?_) (fun c6_ => ?_)
    · refine (R_iinc (ls' := [.inr (.inr (.inl 125)), .inl x0, .inl (wI (x1 + 1))]) zf201_21 rfl rfl rfl).trans ?_
      refine (R_goto (t := 2) zf201_24 rfl).trans ?_
      rfl
    · refine (R_iconst zf201_19 zw_1 rfl).trans ?_
      exact R_ireturn zf201_20 (by rw [zr_201]; rfl)
-- CannonPostModel.term()I at 5
theorem q207_5_1 (d : Nat) (x0 : Int) (z1 : MV) (hz1 : cat z1 = 1) (x2 : Int) (z3 : MV) (hz3 : cat z3 = 1) (h : MH) : Run (d + 1) 207 5 [.inr (.inr (.inl 97)), .inl x0, z1, .inr (.inl x2), z3] [] h = (if ¬ (h 97 11) = (-1) then some (some (.inl x0), h) else (cI (Run d 188 0 [.inr (.inr (.inl 97))] [] h) fun a3_ h2_ => (if a3_ = 42 then (cI (Run d 188 0 [.inr (.inr (.inl 97))] [] h2_) fun a6_ h5_ => (if ¬ a6_ = 42 then Run (d + 1) 207 45 [.inr (.inr (.inl 97)), .inl x0, z1, .inr (.inl x2), z3] [.inl 0] h5_ else Run (d + 1) 207 45 [.inr (.inr (.inl 97)), .inl x0, z1, .inr (.inl x2), z3] [.inl 1] h5_)) else (cI (Run d 188 0 [.inr (.inr (.inl 97))] [] h2_) fun a9_ h8_ => (if ¬ a9_ = 47 then some (some (.inl x0), h8_) else (cI (Run d 188 0 [.inr (.inr (.inl 97))] [] h8_) fun a12_ h11_ => (if ¬ a12_ = 42 then Run (d + 1) 207 45 [.inr (.inr (.inl 97)), .inl x0, z1, .inr (.inl x2), z3] [.inl 0] h11_ else Run (d + 1) 207 45 [.inr (.inr (.inl 97)), .inl x0, z1, .inr (.inl x2), z3] [.inl 1] h11_))))))) := by
  refine (R_aload_n zf207_5 rfl zlt_97 rfl).trans ?_
  refine (R_getI zf207_6 zo_207 zfl_12_128 zk1_97 zft_12_11 rfl).trans ?_
  refine (R_iconst zf207_9 zw_m1 rfl).trans ?_
  refine (R_icmp_ne (t := 94) zf207_10 rfl rfl).trans ?_
  refine ite_congr rfl (fun c1_ => ?_) (fun c1_ => ?_)
  · refine (R_iload_n zf207_94 rfl rfl).trans ?_
    exact R_ireturn_i zf207_95 zr_207
  · refine (R_aload_n zf207_13 rfl zlt_97 rfl).trans ?_
    refine (R_vcallI zf207_14 zo_207 zvl_12_138 (by rw [zr_188]; rfl) zl_188 (Nat.le_of_ble_eq_true rfl) rfl rfl (Nat.le_of_ble_eq_true rfl) (Nat.le_of_ble_eq_true rfl) (es := [.inr (.inr (.inl 97))]) rfl rfl zk1_97 zo_188).trans ?_
    refine congrArg (cI _) (funext fun a3_ => funext fun h2_ => ?_)
    refine (R_bipush zf207_17 zb_42 rfl).trans ?_
    refine (R_icmp_eq (t := 31) zf207_19 rfl rfl).trans ?_
    refine ite_congr rfl (fun c4_ => ?_) (fun c4_ => ?_)
    · refine (R_aload_n zf207_31 rfl zlt_97 rfl).trans ?_
      refine (R_vcallI zf207_32 zo_207 zvl_12_138 (by rw [zr_188]; rfl) zl_188 (Nat.le_of_ble_eq_true rfl) rfl rfl (Nat.le_of_ble_eq_true rfl) (Nat.le_of_ble_eq_true rfl) (es := [.inr (.inr (.inl 97))]) rfl rfl zk1_97 zo_188).trans ?_
      refine congrArg (cI _) (funext fun a6_ => funext fun h5_ => ?_)
      refine (R_bipush zf207_35 zb_42 rfl).trans ?_
      refine (R_icmp_ne (t := 44) zf207_37 rfl rfl).trans ?_
      refine ite_congr rfl (fun c7_ => ?_) (fun c7_ => ?_)
      · refine (R_iconst zf207_44 zw_0 rfl).trans ?_
        rfl
      · refine (R_iconst zf207_40 zw_1 rfl).trans ?_
        refine (R_goto (t := 45) zf207_41 rfl).trans ?_
        rfl
    · refine (R_aload_n zf207_22 rfl zlt_97 rfl).trans ?_
      refine (R_vcallI zf207_23 zo_207 zvl_12_138 (by rw [zr_188]; rfl) zl_188 (Nat.le_of_ble_eq_true rfl) rfl rfl (Nat.le_of_ble_eq_true rfl) (Nat.le_of_ble_eq_true rfl) (es := [.inr (.inr (.inl 97))]) rfl rfl zk1_97 zo_188).trans ?_
      refine congrArg (cI _) (funext fun a9_ => funext fun h8_ => ?_)
      refine (R_bipush zf207_26 zb_47 rfl).trans ?_
      refine (R_icmp_ne (t := 94) zf207_28 rfl rfl).trans ?_
      refine ite_congr rfl (fun c10_ => ?_) (fun c10_ => ?_)
      · refine (R_iload_n zf207_94 rfl rfl).trans ?_
        exact R_ireturn_i zf207_95 zr_207
      · refine (R_aload_n zf207_31 rfl zlt_97 rfl).trans ?_
        refine (R_vcallI zf207_32 zo_207 zvl_12_138 (by rw [zr_188]; rfl) zl_188 (Nat.le_of_ble_eq_true rfl) rfl rfl (Nat.le_of_ble_eq_true rfl) (Nat.le_of_ble_eq_true rfl) (es := [.inr (.inr (.inl 97))]) rfl rfl zk1_97 zo_188).trans ?_
        refine congrArg (cI _) (funext fun a12_ => funext fun h11_ => ?_)
        refine (R_bipush zf207_35 zb_42 rfl).trans ?_
        refine (R_icmp_ne (t := 44) zf207_37 rfl rfl).trans ?_
        refine ite_congr rfl (fun c13_ => ?_) (fun c13_ => ?_)
        · refine (R_iconst zf207_44 zw_0 rfl).trans ?_
          rfl
        · refine (R_iconst zf207_40 zw_1 rfl).trans ?_
          refine (R_goto (t := 45) zf207_41 rfl).trans ?_
          rfl
-- CannonPostModel.sum()I at 45
theorem q206_45_1 (d : Nat) (x0 : Int) (z1 : MV) (hz1 : cat z1 = 1) (x2 : Int) (z3 : MV) (hz3 : cat z3 = 1) (y4 : Int) (h : MH) : Run (d + 1) 206 45 [.inr (.inr (.inl 97)), .inl x0, z1, .inr (.inl x2), z3] [.inl y4] h = (cI (Run d 207 0 [.inr (.inr (.inl 97)), vU, vU, vU, vU] [] (up h 97 10 (wI ((h 97 10) + 1)))) fun a2_ h1_ => (if y4 = 0 then (cI (Run d 210 0 [.inr (.inl (wL (x0 - a2_))), vU] [] h1_) fun a5_ h4_ => Run (d + 1) 206 5 [.inr (.inr (.inl 97)), .inl a5_, .inl y4, .inr (.inl a2_), vU] [] h4_) else (cI (Run d 210 0 [.inr (.inl (wL (x0 + a2_))), vU] [] h1_) fun a7_ h6_ => Run (d + 1) 206 5 [.inr (.inr (.inl 97)), .inl a7_, .inl y4, .inr (.inl a2_), vU] [] h6_))) := by
  refine (R_istore_n (ls' := [.inr (.inr (.inl 97)), .inl x0, .inl y4, .inr (.inl x2), z3]) zf206_45 (Nat.le_of_ble_eq_true rfl) rfl rfl).trans ?_
  refine (R_aload_n zf206_46 rfl zlt_97 rfl).trans ?_
  refine (R_dup zf206_47 rfl rfl).trans ?_
  refine (R_getI zf206_48 zo_206 zfl_12_119 zk1_97 zft_12_10 rfl).trans ?_
  refine (R_iconst zf206_51 zw_1 rfl).trans ?_
  refine (R_iadd zf206_52 rfl).trans ?_
  refine (R_putI zf206_53 zo_206 zfl_12_119 zk1_97 zft_12_10 rfl).trans ?_
  refine (R_aload_n zf206_56 rfl zlt_97 rfl).trans ?_
  refine (R_vcallI zf206_57 zo_206 zvl_12_178 (by rw [zr_207]; rfl) zl_207 (Nat.le_of_ble_eq_true rfl) rfl rfl (Nat.le_of_ble_eq_true rfl) (Nat.le_of_ble_eq_true rfl) (es := [.inr (.inr (.inl 97)), vU, vU, vU, vU]) rfl rfl zk1_97 zo_207).trans ?_
  refine congrArg (cI _) (funext fun a2_ => funext fun h1_ => ?_)
  refine (R_i2l zf206_60 rfl).trans ?_
  refine (R_lstore_n (ls' := [.inr (.inr (.inl 97)), .inl x0, .inl y4, .inr (.inl a2_), vU]) zf206_61 (Nat.le_of_ble_eq_true rfl) rfl rfl).trans ?_
  refine (R_iload_n zf206_62 rfl rfl).trans ?_
  refine (R_if_eq (t := 73) zf206_63 rfl rfl).trans ?_
  refine ite_congr rfl (fun c3_ => ?_) (fun c3_ => ?_)
  · refine (R_iload_n zf206_73 rfl rfl).trans ?_
    refine (R_i2l zf206_74 rfl).trans ?_
    refine (R_lload_n zf206_75 rfl rfl).trans ?_
    refine (R_lsub zf206_76 rfl).trans ?_
    refine (R_callI zf206_77 zo_206 zsl_12_174 (by rw [zr_210]; rfl) zl_210 (Nat.le_of_ble_eq_true rfl) rfl rfl (Nat.le_of_ble_eq_true rfl) (Nat.le_of_ble_eq_true rfl) (es := [.inr (.inl (wL (x0 - a2_))), vU]) rfl rfl).trans ?_
    refine congrArg (cI _) (funext fun a5_ => funext fun h4_ => ?_)
    refine (R_istore_n (ls' := [.inr (.inr (.inl 97)), .inl a5_, .inl y4, .inr (.inl a2_), vU]) zf206_80 (Nat.le_of_ble_eq_true rfl) rfl rfl).trans ?_
    refine (R_goto (t := 5) zf206_81 rfl).trans ?_
    rfl
  · refine (R_iload_n zf206_66 rfl rfl).trans ?_
    refine (R_i2l zf206_67 rfl).trans ?_
    refine (R_lload_n zf206_68 rfl rfl).trans ?_
    refine (R_ladd zf206_69 rfl).trans ?_
    refine (R_goto (t := 77) zf206_70 rfl).trans ?_
    refine (R_callI zf206_77 zo_206 zsl_12_174 (by rw [zr_210]; rfl) zl_210 (Nat.le_of_ble_eq_true rfl) rfl rfl (Nat.le_of_ble_eq_true rfl) (Nat.le_of_ble_eq_true rfl) (es := [.inr (.inl (wL (x0 + a2_))), vU]) rfl rfl).trans ?_
    refine congrArg (cI _) (funext fun a7_ => funext fun h6_ => ?_)
    refine (R_istore_n (ls' := [.inr (.inr (.inl 97)), .inl a7_, .inl y4, .inr (.inl a2_), vU]) zf206_80 (Nat.le_of_ble_eq_true rfl) rfl rfl).trans ?_
    refine (R_goto (t := 5) zf206_81 rfl).trans ?_
    rfl
-- java/lang/String.length()I at 0
theorem q28_0_2 (d : Nat) (h : MH) : Run (d + 1) 28 0 [.inr (.inr (.inl 129))] [] h = (cI (Run d 29 0 [.inr (.inr (.inl 129))] [] h) fun a2_ h1_ => some (some (.inl (iShr 3 a2_)), h1_)) := by
  refine (R_aload_n zf28_0 rfl zlt_129 rfl).trans ?_
  refine (R_getR zf28_1 zo_28 zfl_13_9 zk1_129 zft_13_0 zmr_129_0 rfl).trans ?_
  refine (R_len111 (v := 3) zf28_4 zk_136 rfl rfl).trans ?_
  refine (R_aload_n zf28_5 rfl zlt_129 rfl).trans ?_
  refine (R_vcallI zf28_6 zo_28 zvl_13_335 (by rw [zr_29]; rfl) zl_29 (Nat.le_of_ble_eq_true rfl) rfl rfl (Nat.le_of_ble_eq_true rfl) (Nat.le_of_ble_eq_true rfl) (es := [.inr (.inr (.inl 129))]) rfl rfl zk1_129 zo_29).trans ?_
  refine congrArg (cI _) (funext fun a2_ => funext fun h1_ => ?_)
  refine (R_ishr zf28_9 rfl).trans ?_
  exact R_ireturn_i zf28_10 zr_28
-- CannonPostModel.spotOf(Ljava/lang/String;I)I at 0
theorem q191_0_1 (d : Nat) (x0 : Int) (h : MH) : Run (d + 1) 191 0 [.inr (.inr (.inl 129)), .inl x0, vU] [] h = Run (d + 1) 191 2 [.inr (.inr (.inl 129)), .inl x0, .inl 0] [] h := by
  refine (R_iconst zf191_0 zw_0 rfl).trans ?_
  refine (R_istore_n (ls' := [.inr (.inr (.inl 129)), .inl x0, .inl 0]) zf191_1 (Nat.le_of_ble_eq_true rfl) rfl rfl).trans ?_
  rfl
-- CannonPostModel.readItems(I[IILjava/lang/String;)V at 45
theorem q190_45 (d : Nat) (x0 : Int) (x1 : Int) (x2 : Int) (x3 : Int) (h : MH) : Run (d + 1) 190 45 [.inr (.inr (.inl 97)), .inl x0, .inr (.inr (.inl 107)), .inl x1, .inr (.inr (.inl 129)), .inl x2, .inl x3] [] h = (if x3 = (-1) then some (none, h) else (if ¬ (h 97 11) = (-1) then some (none, h) else (cI (Run d 192 0 [.inl x2, .inl x3] [] h) fun a4_ h3_ => (if a4_ = 0 then (cI (Run d 193 0 [.inl x0, .inl x3] [] (up h3_ 97 10 (wI ((h3_ 97 10) + 1)))) fun a7_ h6_ => (cI (Run d 194 0 [.inl x0, .inl x3] [] h6_) fun a9_ h8_ => (cI (Run d 195 0 [.inr (.inr (.inl 97)), .inl a7_, .inl a9_, vU, vU] [] h8_) fun a11_ h10_ => (if 0 ≤ (wI (x1 + x3)) ∧ (wI (x1 + x3)) < 15 then (if ¬ ((up h10_ 107 (wI (x1 + x3)).toNat a11_) 97 11) = (-1) then Run (d + 1) 190 45 [.inr (.inr (.inl 97)), .inl x0, .inr (.inr (.inl 107)), .inl x1, .inr (.inr (.inl 129)), .inl (iOr x2 (iShl 1 x3)), .inl x3] [] (up h10_ 107 (wI (x1 + x3)).toNat a11_) else (cI (Run d 188 0 [.inr (.inr (.inl 97))] [] (up h10_ 107 (wI (x1 + x3)).toNat a11_)) fun a15_ h14_ => (cI (Run d 191 0 [.inr (.inr (.inl 129)), .inl a15_, vU] [] h14_) fun a17_ h16_ => Run (d + 1) 190 45 [.inr (.inr (.inl 97)), .inl x0, .inr (.inr (.inl 107)), .inl x1, .inr (.inr (.inl 129)), .inl (iOr x2 (iShl 1 x3)), .inl a17_] [] h16_))) else none)))) else (cI (Run d 189 0 [.inr (.inr (.inl 97))] [] h3_) fun a19_ h18_ => some (none, h18_)))))) := by
  refine (R_iload zf190_45 rfl rfl).trans ?_
  refine (R_iconst zf190_47 zw_m1 rfl).trans ?_
  refine (R_icmp_eq (t := 138) zf190_48 rfl rfl).trans ?_
  refine ite_congr rfl (fun c1_ => ?_) (fun c1_ => ?_)
  · exact R_return zf190_138 zr_190
  · refine (R_aload_n zf190_51 rfl zlt_97 rfl).trans ?_
    refine (R_getI zf190_52 zo_190 zfl_12_128 zk1_97 zft_12_11 rfl).trans ?_
    refine (R_iconst zf190_55 zw_m1 rfl).trans ?_
    refine (R_icmp_ne (t := 138) zf190_56 rfl rfl).trans ?_
    refine ite_congr rfl (fun c2_ => ?_) (fun c2_ => ?_)
    · exact R_return zf190_138 zr_190
    · refine (R_iload zf190_59 rfl rfl).trans ?_
      refine (R_iload zf190_61 rfl rfl).trans ?_
      refine (R_callI zf190_63 zo_190 zsl_12_229 (by rw [zr_192]; rfl) zl_192 (Nat.le_of_ble_eq_true rfl) rfl rfl (Nat.le_of_ble_eq_true rfl) (Nat.le_of_ble_eq_true rfl) (es := [.inl x2, .inl x3]) rfl rfl).trans ?_
      refine congrArg (cI _) (funext fun a4_ => funext fun h3_ => ?_)
      refine (R_if_eq (t := 75) zf190_66 rfl rfl).trans ?_
      refine ite_congr rfl (fun c5_ => ?_) (fun c5_ => ?_)
      · refine (R_iload zf190_75 rfl rfl).trans ?_
        refine (R_iconst zf190_77 zw_1 rfl).trans ?_
        refine (R_iload zf190_78 rfl rfl).trans ?_
        refine (R_ishl zf190_80 rfl).trans ?_
        refine (R_ior zf190_81 rfl).trans ?_
        refine (R_istore (ls' := [.inr (.inr (.inl 97)), .inl x0, .inr (.inr (.inl 107)), .inl x1, .inr (.inr (.inl 129)), .inl (iOr x2 (iShl 1 x3)), .inl x3]) zf190_82 (Nat.le_of_ble_eq_true rfl) rfl rfl).trans ?_
        refine (R_aload_n zf190_84 rfl zlt_97 rfl).trans ?_
        refine (R_dup zf190_85 rfl rfl).trans ?_
        refine (R_getI zf190_86 zo_190 zfl_12_119 zk1_97 zft_12_10 rfl).trans ?_
        refine (R_iconst zf190_89 zw_1 rfl).trans ?_
        refine (R_iadd zf190_90 rfl).trans ?_
        refine (R_putI zf190_91 zo_190 zfl_12_119 zk1_97 zft_12_10 rfl).trans ?_
        refine (R_aload_n zf190_94 rfl zlt_107 rfl).trans ?_
        refine (R_iload_n zf190_95 rfl rfl).trans ?_
        refine (R_iload zf190_96 rfl rfl).trans ?_
        refine (R_iadd zf190_98 rfl).trans ?_
        refine (R_aload_n zf190_99 rfl zlt_97 rfl).trans ?_
        refine (R_iload_n zf190_100 rfl rfl).trans ?_
        refine (R_iload zf190_101 rfl rfl).trans ?_
        refine (R_callI zf190_103 zo_190 zsl_12_233 (by rw [zr_193]; rfl) zl_193 (Nat.le_of_ble_eq_true rfl) rfl rfl (Nat.le_of_ble_eq_true rfl) (Nat.le_of_ble_eq_true rfl) (es := [.inl x0, .inl x3]) rfl rfl).trans ?_
        refine congrArg (cI _) (funext fun a7_ => funext fun h6_ => ?_)
        refine (R_iload_n zf190_106 rfl rfl).trans ?_
        refine (R_iload zf190_107 rfl rfl).trans ?_
        refine (R_callI zf190_109 zo_190 zsl_12_236 (by rw [zr_194]; rfl) zl_194 (Nat.le_of_ble_eq_true rfl) rfl rfl (Nat.le_of_ble_eq_true rfl) (Nat.le_of_ble_eq_true rfl) (es := [.inl x0, .inl x3]) rfl rfl).trans ?_
        refine congrArg (cI _) (funext fun a9_ => funext fun h8_ => ?_)
        refine (R_vcallI zf190_112 zo_190 zvl_12_239 (by rw [zr_195]; rfl) zl_195 (Nat.le_of_ble_eq_true rfl) rfl rfl (Nat.le_of_ble_eq_true rfl) (Nat.le_of_ble_eq_true rfl) (es := [.inr (.inr (.inl 97)), .inl a7_, .inl a9_, vU, vU]) rfl rfl zk1_97 zo_195).trans ?_
        refine congrArg (cI _) (funext fun a11_ => funext fun h10_ => ?_)
        refine (R_iast zf190_115 zk_107 rfl).trans ?_
        refine ite_congr rfl (fun c12_ => ?_) (fun _ => rfl)
        refine (R_aload_n zf190_116 rfl zlt_97 rfl).trans ?_
        refine (R_getI zf190_117 zo_190 zfl_12_128 zk1_97 zft_12_11 rfl).trans ?_
        refine (R_iconst zf190_120 zw_m1 rfl).trans ?_
        refine (R_icmp_ne (t := 45) zf190_121 rfl rfl).trans ?_
        refine ite_congr rfl (fun c13_ => ?_) (fun c13_ => ?_)
        · rfl
        · refine (R_aload zf190_124 rfl zlt_129 rfl).trans ?_
          refine (R_aload_n zf190_126 rfl zlt_97 rfl).trans ?_
          refine (R_vcallI zf190_127 zo_190 zvl_12_138 (by rw [zr_188]; rfl) zl_188 (Nat.le_of_ble_eq_true rfl) rfl rfl (Nat.le_of_ble_eq_true rfl) (Nat.le_of_ble_eq_true rfl) (es := [.inr (.inr (.inl 97))]) rfl rfl zk1_97 zo_188).trans ?_
          refine congrArg (cI _) (funext fun a15_ => funext fun h14_ => ?_)
          refine (R_callI zf190_130 zo_190 zsl_12_225 (by rw [zr_191]; rfl) zl_191 (Nat.le_of_ble_eq_true rfl) rfl rfl (Nat.le_of_ble_eq_true rfl) (Nat.le_of_ble_eq_true rfl) (es := [.inr (.inr (.inl 129)), .inl a15_, vU]) rfl rfl).trans ?_
          refine congrArg (cI _) (funext fun a17_ => funext fun h16_ => ?_)
          refine (R_istore (ls' := [.inr (.inr (.inl 97)), .inl x0, .inr (.inr (.inl 107)), .inl x1, .inr (.inr (.inl 129)), .inl (iOr x2 (iShl 1 x3)), .inl a17_]) zf190_133 (Nat.le_of_ble_eq_true rfl) rfl rfl).trans ?_
          refine (R_goto (t := 45) zf190_135 rfl).trans ?_
          rfl
      · refine (R_aload_n zf190_69 rfl zlt_97 rfl).trans ?_
        refine (R_vcallI zf190_70 zo_190 zvl_12_134 (by rw [zr_189]; rfl) zl_189 (Nat.le_of_ble_eq_true rfl) rfl rfl (Nat.le_of_ble_eq_true rfl) (Nat.le_of_ble_eq_true rfl) (es := [.inr (.inr (.inl 97))]) rfl rfl zk1_97 zo_189).trans ?_
        refine congrArg (cI _) (funext fun a19_ => funext fun h18_ => ?_)
        refine (R_pop zf190_73 rfl rfl).trans ?_
        exact R_return zf190_74 zr_190
-- java/lang/String.length()I at 0
theorem q28_0_3 (d : Nat) (h : MH) : Run (d + 1) 28 0 [.inr (.inr (.inl 128))] [] h = (cI (Run d 29 0 [.inr (.inr (.inl 128))] [] h) fun a2_ h1_ => some (some (.inl (iShr 3 a2_)), h1_)) := by
  refine (R_aload_n zf28_0 rfl zlt_128 rfl).trans ?_
  refine (R_getR zf28_1 zo_28 zfl_13_9 zk1_128 zft_13_0 zmr_128_0 rfl).trans ?_
  refine (R_len111 (v := 3) zf28_4 zk_135 rfl rfl).trans ?_
  refine (R_aload_n zf28_5 rfl zlt_128 rfl).trans ?_
  refine (R_vcallI zf28_6 zo_28 zvl_13_335 (by rw [zr_29]; rfl) zl_29 (Nat.le_of_ble_eq_true rfl) rfl rfl (Nat.le_of_ble_eq_true rfl) (Nat.le_of_ble_eq_true rfl) (es := [.inr (.inr (.inl 128))]) rfl rfl zk1_128 zo_29).trans ?_
  refine congrArg (cI _) (funext fun a2_ => funext fun h1_ => ?_)
  refine (R_ishr zf28_9 rfl).trans ?_
  exact R_ireturn_i zf28_10 zr_28
-- CannonPostModel.spotOf(Ljava/lang/String;I)I at 0
theorem q191_0_2 (d : Nat) (x0 : Int) (h : MH) : Run (d + 1) 191 0 [.inr (.inr (.inl 128)), .inl x0, vU] [] h = Run (d + 1) 191 2 [.inr (.inr (.inl 128)), .inl x0, .inl 0] [] h := by
  refine (R_iconst zf191_0 zw_0 rfl).trans ?_
  refine (R_istore_n (ls' := [.inr (.inr (.inl 128)), .inl x0, .inl 0]) zf191_1 (Nat.le_of_ble_eq_true rfl) rfl rfl).trans ?_
  rfl
