/-! the methods as equations of Run: CannonPost.allSayable=105, CannonPost.rests=167, CannonPostModel.ask=280, CannonPostModel.atom=208, CannonPostModel.canKnow=276, CannonPostModel.comesTo=231, CannonPostModel.compares=205, CannonPostModel.condition=203, CannonPostModel.digit=215, CannonPostModel.goThrough=199, CannonPostModel.hasAim=283, CannonPostModel.isAmong=201, CannonPostModel.isDigit=196, CannonPostModel.isWhole=198, CannonPostModel.layAims=264, CannonPostModel.look=188, CannonPostModel.netOf=282, CannonPostModel.part=204, CannonPostModel.readClause=187, CannonPostModel.readItems=190, CannonPostModel.readStep=214, CannonPostModel.relay=272, CannonPostModel.says=250, CannonPostModel.shoots=230, CannonPostModel.spotOf=191, CannonPostModel.starts=185, CannonPostModel.sum=206, CannonPostModel.term=207, CannonPostModel.text=216, CannonPostModel.unit=212, CannonPostModel.weightFor=292, Flight.comesTo=79, Flight.reckon=126, Guesses.explains=151, Guesses.mostTogether=155, Guesses.product=161, Guesses.reachBy=152, Guesses.tellingShot=154, LawReader.readAtom=25, LawReader.readCondition=36, LawReader.readSum=24, Lawbook.worth=84, League.isWhole=18, LeagueReader.readClause=7, LeagueReader.readItems=10, Paths.firstShot=133, Paths.leads=134, Paths.link=139, Paths.trace=128, State.land=88, State.noteShot=89, State.passHour=100, String.charAt=12, String.length=28, java/util/Arrays.fill=48 -/
-- CannonPost$Paths.link(LCannonPost$State;)V at 22
theorem q139_22_1 (d : Nat) (x0 : Int) (x1 : Int) (x2 : Int) (h : MH) : Run (d + 1) 139 22 [.inr (.inr (.inl 9)), .inr (.inr (.inl 12)), .inl x0, .inl x1, .inl x2] [] h = (if (h 2 4) ≤ x1 then Run (d + 1) 139 2 [.inr (.inr (.inl 9)), .inr (.inr (.inl 12)), .inl (wI (x0 + 1)), .inl x1, .inl x2] [] h else Run (d + 1) 139 36 [.inr (.inr (.inl 9)), .inr (.inr (.inl 12)), .inl x0, .inl x1, .inl 0] [] h) := by
  refine (R_iload_n zf139_22 rfl rfl).trans ?_
  refine (R_aload_n zf139_23 rfl zlt_9 rfl).trans ?_
  refine (R_getR zf139_24 zo_139 zfl_7_29 zk1_9 zft_7_5 zmr_9_5 rfl).trans ?_
  refine (R_getI zf139_27 zo_139 zfl_7_71 zk1_2 zft_5_4 rfl).trans ?_
  refine (R_icmp_ge (t := 93) zf139_30 rfl rfl).trans ?_
  refine ite_congr rfl (fun c1_ => ?_) (fun c1_ => ?_)
  · refine (R_iinc (ls' := [.inr (.inr (.inl 9)), .inr (.inr (.inl 12)), .inl (wI (x0 + 1)), .inl x1, .inl x2]) zf139_93 rfl rfl rfl).trans ?_
    refine (R_goto (t := 2) zf139_96 rfl).trans ?_
    rfl
  · refine (R_iconst zf139_33 zw_0 rfl).trans ?_
    refine (R_istore (ls' := [.inr (.inr (.inl 9)), .inr (.inr (.inl 12)), .inl x0, .inl x1, .inl 0]) zf139_34 (Nat.le_of_ble_eq_true rfl) rfl rfl).trans ?_
    rfl
-- CannonPost$Guesses.reachBy(IIIII)I at 0
theorem q152_0 (d : Nat) (x0 : Int) (x1 : Int) (x2 : Int) (x3 : Int) (x4 : Int) (h : MH) : Run (d + 1) 152 0 [.inr (.inr (.inl 10)), .inl x0, .inl x1, .inl x2, .inl x3, .inl x4] [] h = (cI (Run d 80 0 [.inl (x0.tmod 10), .inl (wI (x0.tdiv 10)), .inl x4] [] h) fun a2_ h1_ => (cI (Run d 81 0 [.inr (.inr (.inl 8)), .inl x1, .inl x2, .inl x3, .inl a2_, .inl 0, vU, vU, vU] [] h1_) fun a4_ h3_ => some (some (.inl a4_), h3_))) := by
  refine (R_aload_n zf152_0 rfl zlt_10 rfl).trans ?_
  refine (R_getR zf152_1 zo_152 zfl_1_34 zk1_10 zft_1_9 zmr_10_9 rfl).trans ?_
  refine (R_iload_n zf152_4 rfl rfl).trans ?_
  refine (R_iload_n zf152_5 rfl rfl).trans ?_
  refine (R_iload zf152_6 rfl rfl).trans ?_
  refine (R_iload_n zf152_8 rfl rfl).trans ?_
  refine (R_bipush zf152_9 zb_10 rfl).trans ?_
  refine (R_irem zf152_11 (by decide) rfl).trans ?_
  refine (R_iload_n zf152_12 rfl rfl).trans ?_
  refine (R_bipush zf152_13 zb_10 rfl).trans ?_
  refine (R_idiv zf152_15 (by decide) rfl).trans ?_
  refine (R_iload zf152_16 rfl rfl).trans ?_
  refine (R_callI zf152_18 zo_152 zsl_1_66 (by rw [zr_80]; rfl) zl_80 (Nat.le_of_ble_eq_true rfl) rfl rfl (Nat.le_of_ble_eq_true rfl) (Nat.le_of_ble_eq_true rfl) (es := [.inl (x0.tmod 10), .inl (wI (x0.tdiv 10)), .inl x4]) rfl rfl).trans ?_
  refine congrArg (cI _) (funext fun a2_ => funext fun h1_ => ?_)
  refine (R_iconst zf152_21 zw_0 rfl).trans ?_
  refine (R_vcallI zf152_22 zo_152 zvl_1_69 (by rw [zr_81]; rfl) zl_81 (Nat.le_of_ble_eq_true rfl) rfl rfl (Nat.le_of_ble_eq_true rfl) (Nat.le_of_ble_eq_true rfl) (es := [.inr (.inr (.inl 8)), .inl x1, .inl x2, .inl x3, .inl a2_, .inl 0, vU, vU, vU]) rfl rfl zk1_8 zo_81).trans ?_
  refine congrArg (cI _) (funext fun a4_ => funext fun h3_ => ?_)
  exact R_ireturn_i zf152_25 zr_152
-- CannonPost$Guesses.explains(I)Z at 2
theorem q151_2_1 (d : Nat) (x0 : Int) (x1 : Int) (x2 : Int) (x3 : Int) (x4 : Int) (x5 : Int) (h : MH) : Run (d + 1) 151 2 [.inr (.inr (.inl 10)), .inl x0, .inl x1, .inl x2, .inl x3, .inl x4, .inl x5] [] h = (if (h 10 2) ≤ x1 then some (some (.inl 1), h) else (if 0 ≤ (wI ((wI (x1 * 5)) + 1)) ∧ (wI ((wI (x1 * 5)) + 1)) < 50 then (if 0 ≤ (wI ((wI (x1 * 5)) + 3)) ∧ (wI ((wI (x1 * 5)) + 3)) < 50 then (if 0 ≤ (wI (x1 * 5)) ∧ (wI (x1 * 5)) < 50 then (if 0 ≤ (wI ((wI (x1 * 5)) + 2)) ∧ (wI ((wI (x1 * 5)) + 2)) < 50 then (cI (Run d 152 0 [.inr (.inr (.inl 10)), .inl x0, .inl (h 46 (wI (x1 * 5)).toNat), .inl (h 46 (wI ((wI (x1 * 5)) + 1)).toNat), .inl (h 46 (wI ((wI (x1 * 5)) + 2)).toNat), .inl (h 46 (wI ((wI (x1 * 5)) + 3)).toNat)] [] h) fun a7_ h6_ => (cI (Run d 19 0 [.inr (.inr (.inl 2)), .inl (h 46 (wI ((wI (x1 * 5)) + 1)).toNat)] [] h6_) fun a9_ h8_ => (cI (Run d 86 0 [.inl a9_, .inl a7_, .inl (h 46 (wI ((wI (x1 * 5)) + 3)).toNat)] [] h8_) fun a11_ h10_ => (if 0 ≤ (wI ((wI (x1 * 5)) + 4)) ∧ (wI ((wI (x1 * 5)) + 4)) < 50 then (if a11_ = (h10_ 46 (wI ((wI (x1 * 5)) + 4)).toNat) then Run (d + 1) 151 2 [.inr (.inr (.inl 10)), .inl x0, .inl (wI (x1 + 1)), .inl (wI (x1 * 5)), .inl (h 46 (wI ((wI (x1 * 5)) + 1)).toNat), .inl (h 46 (wI ((wI (x1 * 5)) + 3)).toNat), .inl a7_] [] h10_ else some (some (.inl 0), h10_)) else none)))) else none) else none) else none) else none)) := by
  refine (R_iload_n zf151_2 rfl rfl).trans ?_
  refine (R_aload_n zf151_3 rfl zlt_10 rfl).trans ?_
  refine (R_getI zf151_4 zo_151 zfl_1_38 zk1_10 zft_1_2 rfl).trans ?_
  refine (R_icmp_ge (t := 94) zf151_7 rfl rfl).trans ?_
  refine ite_congr rfl (fun c1_ => ?_) (fun c1_ => ?_)
  · refine (R_iconst zf151_94 zw_1 rfl).trans ?_
    exact R_ireturn zf151_95 (by rw [zr_151]; rfl)
  · refine (R_iload_n zf151_10 rfl rfl).trans ?_
    refine (R_iconst zf151_11 zw_5 rfl).trans ?_
    refine (R_imul zf151_12 rfl).trans ?_
    refine (R_istore_n (ls' := [.inr (.inr (.inl 10)), .inl x0, .inl x1, .inl (wI (x1 * 5)), .inl x3, .inl x4, .inl x5]) zf151_13 (Nat.le_of_ble_eq_true rfl) rfl rfl).trans ?_
    refine (R_aload_n zf151_14 rfl zlt_10 rfl).trans ?_
    refine (R_getR zf151_15 zo_151 zfl_1_15 zk1_10 zft_1_4 zmr_10_4 rfl).trans ?_
    refine (R_iload_n zf151_18 rfl rfl).trans ?_
    refine (R_iconst zf151_19 zw_1 rfl).trans ?_
    refine (R_iadd zf151_20 rfl).trans ?_
    refine (R_iald zf151_21 zk_46 rfl).trans ?_
    refine ite_congr rfl (fun c2_ => ?_) (fun _ => rfl)
    refine (R_istore (ls' := [.inr (.inr (.inl 10)), .inl x0, .inl x1, .inl (wI (x1 * 5)), .inl (h 46 (wI ((wI (x1 * 5)) + 1)).toNat), .inl x4, .inl x5]) zf151_22 (Nat.le_of_ble_eq_true rfl) rfl rfl).trans ?_
    refine (R_aload_n zf151_24 rfl zlt_10 rfl).trans ?_
    refine (R_getR zf151_25 zo_151 zfl_1_15 zk1_10 zft_1_4 zmr_10_4 rfl).trans ?_
    refine (R_iload_n zf151_28 rfl rfl).trans ?_
    refine (R_iconst zf151_29 zw_3 rfl).trans ?_
    refine (R_iadd zf151_30 rfl).trans ?_
    refine (R_iald zf151_31 zk_46 rfl).trans ?_
    refine ite_congr rfl (fun c3_ => ?_) (fun _ => rfl)
    refine (R_istore (ls' := [.inr (.inr (.inl 10)), .inl x0, .inl x1, .inl (wI (x1 * 5)), .inl (h 46 (wI ((wI (x1 * 5)) + 1)).toNat), .inl (h 46 (wI ((wI (x1 * 5)) + 3)).toNat), .inl x5]) zf151_32 (Nat.le_of_ble_eq_true rfl) rfl rfl).trans ?_
    refine (R_aload_n zf151_34 rfl zlt_10 rfl).trans ?_
    refine (R_iload_n zf151_35 rfl rfl).trans ?_
    refine (R_aload_n zf151_36 rfl zlt_10 rfl).trans ?_
    refine (R_getR zf151_37 zo_151 zfl_1_15 zk1_10 zft_1_4 zmr_10_4 rfl).trans ?_
    refine (R_iload_n zf151_40 rfl rfl).trans ?_
    refine (R_iald zf151_41 zk_46 rfl).trans ?_
    refine ite_congr rfl (fun c4_ => ?_) (fun _ => rfl)
    refine (R_iload zf151_42 rfl rfl).trans ?_
    refine (R_aload_n zf151_44 rfl zlt_10 rfl).trans ?_
    refine (R_getR zf151_45 zo_151 zfl_1_15 zk1_10 zft_1_4 zmr_10_4 rfl).trans ?_
    refine (R_iload_n zf151_48 rfl rfl).trans ?_
    refine (R_iconst zf151_49 zw_2 rfl).trans ?_
    refine (R_iadd zf151_50 rfl).trans ?_
    refine (R_iald zf151_51 zk_46 rfl).trans ?_
    refine ite_congr rfl (fun c5_ => ?_) (fun _ => rfl)
    refine (R_iload zf151_52 rfl rfl).trans ?_
    refine (R_vcallI zf151_54 zo_151 zvl_1_52 (by rw [zr_152]; rfl) zl_152 (Nat.le_of_ble_eq_true rfl) rfl rfl (Nat.le_of_ble_eq_true rfl) (Nat.le_of_ble_eq_true rfl) (es := [.inr (.inr (.inl 10)), .inl x0, .inl (h 46 (wI (x1 * 5)).toNat), .inl (h 46 (wI ((wI (x1 * 5)) + 1)).toNat), .inl (h 46 (wI ((wI (x1 * 5)) + 2)).toNat), .inl (h 46 (wI ((wI (x1 * 5)) + 3)).toNat)]) rfl rfl zk1_10 zo_152).trans ?_
    refine congrArg (cI _) (funext fun a7_ => funext fun h6_ => ?_)
    refine (R_istore (ls' := [.inr (.inr (.inl 10)), .inl x0, .inl x1, .inl (wI (x1 * 5)), .inl (h 46 (wI ((wI (x1 * 5)) + 1)).toNat), .inl (h 46 (wI ((wI (x1 * 5)) + 3)).toNat), .inl a7_]) zf151_57 (Nat.le_of_ble_eq_true rfl) rfl rfl).trans ?_
    refine (R_aload_n zf151_59 rfl zlt_10 rfl).trans ?_
    refine (R_getR zf151_60 zo_151 zfl_1_30 zk1_10 zft_1_8 zmr_10_8 rfl).trans ?_
    refine (R_iload zf151_63 rfl rfl).trans ?_
    refine (R_vcallI zf151_65 zo_151 zvl_1_56 (by rw [zr_19]; rfl) zl_19 (Nat.le_of_ble_eq_true rfl) rfl rfl (Nat.le_of_ble_eq_true rfl) (Nat.le_of_ble_eq_true rfl) (es := [.inr (.inr (.inl 2)), .inl (h 46 (wI ((wI (x1 * 5)) + 1)).toNat)]) rfl rfl zk1_2 zo_19).trans ?_
    refine congrArg (cI _) (funext fun a9_ => funext fun h8_ => ?_)
    refine (R_iload zf151_68 rfl rfl).trans ?_
    refine (R_iload zf151_70 rfl rfl).trans ?_
    refine (R_callI zf151_72 zo_151 zsl_1_62 (by rw [zr_86]; rfl) zl_86 (Nat.le_of_ble_eq_true rfl) rfl rfl (Nat.le_of_ble_eq_true rfl) (Nat.le_of_ble_eq_true rfl) (es := [.inl a9_, .inl a7_, .inl (h 46 (wI ((wI (x1 * 5)) + 3)).toNat)]) rfl rfl).trans ?_
    refine congrArg (cI _) (funext fun a11_ => funext fun h10_ => ?_)
    refine (R_aload_n zf151_75 rfl zlt_10 rfl).trans ?_
    refine (R_getR zf151_76 zo_151 zfl_1_15 zk1_10 zft_1_4 zmr_10_4 rfl).trans ?_
    refine (R_iload_n zf151_79 rfl rfl).trans ?_
    refine (R_iconst zf151_80 zw_4 rfl).trans ?_
    refine (R_iadd zf151_81 rfl).trans ?_
    refine (R_iald zf151_82 zk_46 rfl).trans ?_
    refine ite_congr rfl (fun c12_ => ?_) (fun _ => rfl)
    refine (R_icmp_eq (t := 88) zf151_83 rfl rfl).trans ?_
    refine ite_congr rfl (fun c13_ => ?_) (fun c13_ => ?_)
    · refine (R_iinc (ls' := [.inr (.inr (.inl 10)), .inl x0, .inl (wI (x1 + 1)), .inl (wI (x1 * 5)), .inl (h 46 (wI ((wI (x1 * 5)) + 1)).toNat), .inl (h 46 (wI ((wI (x1 * 5)) + 3)).toNat), .inl a7_]) zf151_88 rfl rfl rfl).trans ?_
      refine (R_goto (t := 2) zf151_91 rfl).trans ?_
      rfl
    · refine (R_iconst zf151_86 zw_0 rfl).trans ?_
      exact R_ireturn zf151_87 (by rw [zr_151]; rfl)
-- java/util/Arrays.fill([II)V at 0
theorem q48_0_3 (d : Nat) (x0 : Int) (h : MH) : Run d 48 0 [.inr (.inr (.inl 47)), .inl x0, vU, vU] [] h = Run d 48 5 [.inr (.inr (.inl 47)), .inl x0, .inl 0, .inl 61] [] h := by
  refine (R_iconst zf48_0 zw_0 rfl).trans ?_
  refine (R_istore_n (ls' := [.inr (.inr (.inl 47)), .inl x0, .inl 0, vU]) zf48_1 (Nat.le_of_ble_eq_true rfl) rfl rfl).trans ?_
  refine (R_aload_n zf48_2 rfl zlt_47 rfl).trans ?_
  refine (R_len100 (v := 61) zf48_3 zk_47 rfl rfl).trans ?_
  refine (R_istore_n (ls' := [.inr (.inr (.inl 47)), .inl x0, .inl 0, .inl 61]) zf48_4 (Nat.le_of_ble_eq_true rfl) rfl rfl).trans ?_
  rfl
-- CannonPost$Guesses.mostTogether(IIII)I at 14
theorem q155_14 (d : Nat) (x0 : Int) (x1 : Int) (x2 : Int) (x3 : Int) (x4 : Int) (x5 : Int) (h : MH) : Run (d + 1) 155 14 [.inr (.inr (.inl 10)), .inl x0, .inl x1, .inl x2, .inl x3, .inl x4, .inl x5, vU] [] h = (if (h 10 1) ≤ x5 then some (some (.inl x4), h) else (if 0 ≤ x5 ∧ x5 < 20 then (cI (Run d 152 0 [.inr (.inr (.inl 10)), .inl (h 45 x5.toNat), .inl x0, .inl x1, .inl x2, .inl x3] [] h) fun a4_ h3_ => (if 0 ≤ a4_ ∧ a4_ < 61 then (if 0 ≤ a4_ ∧ a4_ < 61 then (if 0 ≤ a4_ ∧ a4_ < 61 then Run (d + 1) 155 14 [.inr (.inr (.inl 10)), .inl x0, .inl x1, .inl x2, .inl x3, .inl (mx x4 ((up h3_ 47 a4_.toNat (wI ((h3_ 47 a4_.toNat) + 1))) 47 a4_.toNat)), .inl (wI (x5 + 1)), .inl a4_] [] (up h3_ 47 a4_.toNat (wI ((h3_ 47 a4_.toNat) + 1))) else none) else none) else none)) else none)) := by
  refine (R_iload zf155_14 rfl rfl).trans ?_
  refine (R_aload_n zf155_16 rfl zlt_10 rfl).trans ?_
  refine (R_getI zf155_17 zo_155 zfl_1_45 zk1_10 zft_1_1 rfl).trans ?_
  refine (R_icmp_ge (t := 72) zf155_20 rfl rfl).trans ?_
  refine ite_congr rfl (fun c1_ => ?_) (fun c1_ => ?_)
  · refine (R_iload zf155_72 rfl rfl).trans ?_
    exact R_ireturn_i zf155_74 zr_155
  · refine (R_aload_n zf155_23 rfl zlt_10 rfl).trans ?_
    refine (R_aload_n zf155_24 rfl zlt_10 rfl).trans ?_
    refine (R_getR zf155_25 zo_155 zfl_1_11 zk1_10 zft_1_0 zmr_10_0 rfl).trans ?_
    refine (R_iload zf155_28 rfl rfl).trans ?_
    refine (R_iald zf155_30 zk_45 rfl).trans ?_
    refine ite_congr rfl (fun c2_ => ?_) (fun _ => rfl)
    refine (R_iload_n zf155_31 rfl rfl).trans ?_
    refine (R_iload_n zf155_32 rfl rfl).trans ?_
    refine (R_iload_n zf155_33 rfl rfl).trans ?_
    refine (R_iload zf155_34 rfl rfl).trans ?_
    refine (R_vcallI zf155_36 zo_155 zvl_1_52 (by rw [zr_152]; rfl) zl_152 (Nat.le_of_ble_eq_true rfl) rfl rfl (Nat.le_of_ble_eq_true rfl) (Nat.le_of_ble_eq_true rfl) (es := [.inr (.inr (.inl 10)), .inl (h 45 x5.toNat), .inl x0, .inl x1, .inl x2, .inl x3]) rfl rfl zk1_10 zo_152).trans ?_
    refine congrArg (cI _) (funext fun a4_ => funext fun h3_ => ?_)
    refine (R_istore (ls' := [.inr (.inr (.inl 10)), .inl x0, .inl x1, .inl x2, .inl x3, .inl x4, .inl x5, .inl a4_]) zf155_39 (Nat.le_of_ble_eq_true rfl) rfl rfl).trans ?_
    refine (R_aload_n zf155_41 rfl zlt_10 rfl).trans ?_
    refine (R_getR zf155_42 zo_155 zfl_1_20 zk1_10 zft_1_5 zmr_10_5 rfl).trans ?_
    refine (R_iload zf155_45 rfl rfl).trans ?_
    refine (R_dup2 zf155_47 rfl rfl rfl).trans ?_
    refine (R_iald zf155_48 zk_47 rfl).trans ?_
    refine ite_congr rfl (fun c5_ => ?_) (fun _ => rfl)
    refine (R_iconst zf155_49 zw_1 rfl).trans ?_
    refine (R_iadd zf155_50 rfl).trans ?_
    refine (R_iast zf155_51 zk_47 rfl).trans ?_
    refine ite_congr rfl (fun c6_ => ?_) (fun _ => rfl)
    refine (R_iload zf155_52 rfl rfl).trans ?_
    refine (R_aload_n zf155_54 rfl zlt_10 rfl).trans ?_
    refine (R_getR zf155_55 zo_155 zfl_1_20 zk1_10 zft_1_5 zmr_10_5 rfl).trans ?_
    refine (R_iload zf155_58 rfl rfl).trans ?_
    refine (R_iald zf155_60 zk_47 rfl).trans ?_
    refine ite_congr rfl (fun c7_ => ?_) (fun _ => rfl)
    refine (R_mmax zf155_61 zo_155 zsl_1_82 zml_1_82 zna_1_82 (Nat.le_of_ble_eq_true rfl) rfl).trans ?_
    refine (R_istore (ls' := [.inr (.inr (.inl 10)), .inl x0, .inl x1, .inl x2, .inl x3, .inl (mx x4 ((up h3_ 47 a4_.toNat (wI ((h3_ 47 a4_.toNat) + 1))) 47 a4_.toNat)), .inl x5, .inl a4_]) zf155_64 (Nat.le_of_ble_eq_true rfl) rfl rfl).trans ?_
    refine (R_iinc (ls' := [.inr (.inr (.inl 10)), .inl x0, .inl x1, .inl x2, .inl x3, .inl (mx x4 ((up h3_ 47 a4_.toNat (wI ((h3_ 47 a4_.toNat) + 1))) 47 a4_.toNat)), .inl (wI (x5 + 1)), .inl a4_]) zf155_66 rfl rfl rfl).trans ?_
    refine (R_goto (t := 14) zf155_69 rfl).trans ?_
    rfl
-- CannonPost$Guesses.tellingShot(II)I at 13
theorem q154_13_2 (d : Nat) (x0 : Int) (x1 : Int) (x2 : Int) (x3 : Int) (x4 : Int) (x5 : Int) (x6 : Int) (h : MH) : Run (d + 1) 154 13 [.inr (.inr (.inl 10)), .inl x0, .inl x1, .inl x2, .inl x3, .inl x4, .inl x5, .inl x6] [] h = (if 1 < x4 then some (some (.inl x2), h) else (if (h 10 1) ≤ 0 then some (some (.inl x2), h) else Run (d + 1) 154 29 [.inr (.inr (.inl 10)), .inl x0, .inl x1, .inl x2, .inl x3, .inl x4, .inl 1, .inl x6] [] h)) := by
  refine (R_iload zf154_13 rfl rfl).trans ?_
  refine (R_iconst zf154_15 zw_1 rfl).trans ?_
  refine (R_icmp_gt (t := 80) zf154_16 rfl rfl).trans ?_
  refine ite_congr rfl (fun c1_ => ?_) (fun c1_ => ?_)
  · refine (R_iload_n zf154_80 rfl rfl).trans ?_
    exact R_ireturn_i zf154_81 zr_154
  · refine (R_aload_n zf154_19 rfl zlt_10 rfl).trans ?_
    refine (R_getI zf154_20 zo_154 zfl_1_45 zk1_10 zft_1_1 rfl).trans ?_
    refine (R_if_le (t := 80) zf154_23 rfl rfl).trans ?_
    refine ite_congr rfl (fun c2_ => ?_) (fun c2_ => ?_)
    · refine (R_iload_n zf154_80 rfl rfl).trans ?_
      exact R_ireturn_i zf154_81 zr_154
    · refine (R_iconst zf154_26 zw_1 rfl).trans ?_
      refine (R_istore (ls' := [.inr (.inr (.inl 10)), .inl x0, .inl x1, .inl x2, .inl x3, .inl x4, .inl 1, .inl x6]) zf154_27 (Nat.le_of_ble_eq_true rfl) rfl rfl).trans ?_
      rfl
-- CannonPost$Guesses.product(I)J at 30
theorem q161_30 (d : Nat) (x0 : Int) (x1 : Int) (x2 : Int) (y3 : Int) (h : MH) : Run d 161 30 [.inr (.inr (.inl 10)), .inl x0, .inr (.inl x1), vU, .inl x2, vU] [.inl y3] h = (if 0 ≤ x2 ∧ x2 < 12 then (if (h 49 x2.toNat) = 0 then (if y3 = 0 then Run d 161 5 [.inr (.inr (.inl 10)), .inl x0, .inr (.inl (wL (x1 * 7))), vU, .inl (wI (x2 + 1)), .inl y3] [] h else Run d 161 5 [.inr (.inr (.inl 10)), .inl x0, .inr (.inl (wL (x1 * 2))), vU, .inl (wI (x2 + 1)), .inl y3] [] h) else (if y3 = 0 then Run d 161 5 [.inr (.inr (.inl 10)), .inl x0, .inr (.inl (wL (x1 * 3))), vU, .inl (wI (x2 + 1)), .inl y3] [] h else Run d 161 5 [.inr (.inr (.inl 10)), .inl x0, .inr (.inl (wL (x1 * 8))), vU, .inl (wI (x2 + 1)), .inl y3] [] h)) else none) := by
  refine (R_istore (ls' := [.inr (.inr (.inl 10)), .inl x0, .inr (.inl x1), vU, .inl x2, .inl y3]) zf161_30 (Nat.le_of_ble_eq_true rfl) rfl rfl).trans ?_
  refine (R_aload_n zf161_32 rfl zlt_10 rfl).trans ?_
  refine (R_getR zf161_33 zo_161 zfl_1_26 zk1_10 zft_1_7 zmr_10_7 rfl).trans ?_
  refine (R_iload zf161_36 rfl rfl).trans ?_
  refine (R_zald zf161_38 zk_49 rfl).trans ?_
  refine ite_congr rfl (fun c1_ => ?_) (fun _ => rfl)
  refine (R_if_eq (t := 62) zf161_39 rfl rfl).trans ?_
  refine ite_congr rfl (fun c2_ => ?_) (fun c2_ => ?_)
  · refine (R_lload_n zf161_62 rfl rfl).trans ?_
    refine (R_iload zf161_63 rfl rfl).trans ?_
    refine (R_if_eq (t := 74) zf161_65 rfl rfl).trans ?_
    refine ite_congr rfl (fun c3_ => ?_) (fun c3_ => ?_)
    · refine (R_ldc2_w zf161_74 zo_161 zll_1_103 rfl).trans ?_
      refine (R_lmul zf161_77 rfl).trans ?_
      refine (R_lstore_n (ls' := [.inr (.inr (.inl 10)), .inl x0, .inr (.inl (wL (x1 * 7))), vU, .inl x2, .inl y3]) zf161_78 (Nat.le_of_ble_eq_true rfl) rfl rfl).trans ?_
      refine (R_iinc (ls' := [.inr (.inr (.inl 10)), .inl x0, .inr (.inl (wL (x1 * 7))), vU, .inl (wI (x2 + 1)), .inl y3]) zf161_79 rfl rfl rfl).trans ?_
      refine (R_goto (t := 5) zf161_82 rfl).trans ?_
      rfl
    · refine (R_ldc2_w zf161_68 zo_161 zll_1_101 rfl).trans ?_
      refine (R_goto (t := 77) zf161_71 rfl).trans ?_
      refine (R_lmul zf161_77 rfl).trans ?_
      refine (R_lstore_n (ls' := [.inr (.inr (.inl 10)), .inl x0, .inr (.inl (wL (x1 * 2))), vU, .inl x2, .inl y3]) zf161_78 (Nat.le_of_ble_eq_true rfl) rfl rfl).trans ?_
      refine (R_iinc (ls' := [.inr (.inr (.inl 10)), .inl x0, .inr (.inl (wL (x1 * 2))), vU, .inl (wI (x2 + 1)), .inl y3]) zf161_79 rfl rfl rfl).trans ?_
      refine (R_goto (t := 5) zf161_82 rfl).trans ?_
      rfl
  · refine (R_lload_n zf161_42 rfl rfl).trans ?_
    refine (R_iload zf161_43 rfl rfl).trans ?_
    refine (R_if_eq (t := 54) zf161_45 rfl rfl).trans ?_
    refine ite_congr rfl (fun c4_ => ?_) (fun c4_ => ?_)
    · refine (R_ldc2_w zf161_54 zo_161 zll_1_99 rfl).trans ?_
      refine (R_lmul zf161_57 rfl).trans ?_
      refine (R_lstore_n (ls' := [.inr (.inr (.inl 10)), .inl x0, .inr (.inl (wL (x1 * 3))), vU, .inl x2, .inl y3]) zf161_58 (Nat.le_of_ble_eq_true rfl) rfl rfl).trans ?_
      refine (R_goto (t := 79) zf161_59 rfl).trans ?_
      refine (R_iinc (ls' := [.inr (.inr (.inl 10)), .inl x0, .inr (.inl (wL (x1 * 3))), vU, .inl (wI (x2 + 1)), .inl y3]) zf161_79 rfl rfl rfl).trans ?_
      refine (R_goto (t := 5) zf161_82 rfl).trans ?_
      rfl
    · refine (R_ldc2_w zf161_48 zo_161 zll_1_97 rfl).trans ?_
      refine (R_goto (t := 57) zf161_51 rfl).trans ?_
      refine (R_lmul zf161_57 rfl).trans ?_
      refine (R_lstore_n (ls' := [.inr (.inr (.inl 10)), .inl x0, .inr (.inl (wL (x1 * 8))), vU, .inl x2, .inl y3]) zf161_58 (Nat.le_of_ble_eq_true rfl) rfl rfl).trans ?_
      refine (R_goto (t := 79) zf161_59 rfl).trans ?_
      refine (R_iinc (ls' := [.inr (.inr (.inl 10)), .inl x0, .inr (.inl (wL (x1 * 8))), vU, .inl (wI (x2 + 1)), .inl y3]) zf161_79 rfl rfl rfl).trans ?_
      refine (R_goto (t := 5) zf161_82 rfl).trans ?_
      rfl
-- CannonPost.rests(IIII)I at 24
theorem q167_24_2 (d : Nat) (x0 : Int) (x1 : Int) (x2 : Int) (x3 : Int) (x4 : Int) (x5 : Int) (x6 : Int) (x7 : Int) (h : MH) : Run (d + 1) 167 24 [.inr (.inr (.inl 0)), .inl x0, .inl x1, .inl x2, .inl x3, .inl x4, .inl x5, .inl x6, .inl x7] [] h = (if 1 < x5 then (if ¬ x3 = (-1) then some (some (.inl (-1)), h) else some (some (.inl x4), h)) else Run (d + 1) 167 33 [.inr (.inr (.inl 0)), .inl x0, .inl x1, .inl x2, .inl x3, .inl x4, .inl x5, .inl 0, .inl x7] [] h) := by
  refine (R_iload zf167_24 rfl rfl).trans ?_
  refine (R_iconst zf167_26 zw_1 rfl).trans ?_
  refine (R_icmp_gt (t := 144) zf167_27 rfl rfl).trans ?_
  refine ite_congr rfl (fun c1_ => ?_) (fun c1_ => ?_)
  · refine (R_iload zf167_144 rfl rfl).trans ?_
    refine (R_iconst zf167_146 zw_m1 rfl).trans ?_
    refine (R_icmp_ne (t := 155) zf167_147 rfl rfl).trans ?_
    refine ite_congr rfl (fun c2_ => ?_) (fun c2_ => ?_)
    · refine (R_iconst zf167_155 zw_m1 rfl).trans ?_
      exact R_ireturn_i zf167_156 zr_167
    · refine (R_iload zf167_150 rfl rfl).trans ?_
      refine (R_goto (t := 156) zf167_152 rfl).trans ?_
      exact R_ireturn_i zf167_156 zr_167
  · refine (R_iconst zf167_30 zw_0 rfl).trans ?_
    refine (R_istore (ls' := [.inr (.inr (.inl 0)), .inl x0, .inl x1, .inl x2, .inl x3, .inl x4, .inl x5, .inl 0, .inl x7]) zf167_31 (Nat.le_of_ble_eq_true rfl) rfl rfl).trans ?_
    rfl
-- CannonPost.rests(IIII)I at 94
theorem q167_94_1 (d : Nat) (x0 : Int) (x1 : Int) (x2 : Int) (x3 : Int) (x4 : Int) (x5 : Int) (x6 : Int) (x7 : Int) (y8 : Int) (h : MH) : Run (d + 1) 167 94 [.inr (.inr (.inl 0)), .inl x0, .inl x1, .inl x2, .inl x3, .inl x4, .inl x5, .inl x6, .inl x7] [.inl y8] h = (if y8 = 0 then (if y8 = 0 then Run (d + 1) 167 33 [.inr (.inr (.inl 0)), .inl x0, .inl x1, .inl x2, .inl x3, .inl (wI (x4 + 0)), .inl x5, .inl (wI (x6 + 1)), .inl y8] [] h else Run (d + 1) 167 33 [.inr (.inr (.inl 0)), .inl x0, .inl x1, .inl x2, .inl x3, .inl (wI (x4 + 1)), .inl x5, .inl (wI (x6 + 1)), .inl y8] [] h) else (if ¬ x4 = x3 then (if y8 = 0 then Run (d + 1) 167 33 [.inr (.inr (.inl 0)), .inl x0, .inl x1, .inl x2, .inl x3, .inl (wI (x4 + 0)), .inl x5, .inl (wI (x6 + 1)), .inl y8] [] h else Run (d + 1) 167 33 [.inr (.inr (.inl 0)), .inl x0, .inl x1, .inl x2, .inl x3, .inl (wI (x4 + 1)), .inl x5, .inl (wI (x6 + 1)), .inl y8] [] h) else some (some (.inl (wI ((wI (10 * x5)) + x6))), h))) := by
  refine (R_istore (ls' := [.inr (.inr (.inl 0)), .inl x0, .inl x1, .inl x2, .inl x3, .inl x4, .inl x5, .inl x6, .inl y8]) zf167_94 (Nat.le_of_ble_eq_true rfl) rfl rfl).trans ?_
  refine (R_iload zf167_96 rfl rfl).trans ?_
  refine (R_if_eq (t := 117) zf167_98 rfl rfl).trans ?_
  refine ite_congr rfl (fun c1_ => ?_) (fun c1_ => ?_)
  · refine (R_iload zf167_117 rfl rfl).trans ?_
    refine (R_iload zf167_119 rfl rfl).trans ?_
    refine (R_if_eq (t := 128) zf167_121 rfl rfl).trans ?_
    refine ite_congr rfl (fun c2_ => ?_) (fun c2_ => ?_)
    · refine (R_iconst zf167_128 zw_0 rfl).trans ?_
      refine (R_iadd zf167_129 rfl).trans ?_
      refine (R_istore (ls' := [.inr (.inr (.inl 0)), .inl x0, .inl x1, .inl x2, .inl x3, .inl (wI (x4 + 0)), .inl x5, .inl x6, .inl y8]) zf167_130 (Nat.le_of_ble_eq_true rfl) rfl rfl).trans ?_
      refine (R_iinc (ls' := [.inr (.inr (.inl 0)), .inl x0, .inl x1, .inl x2, .inl x3, .inl (wI (x4 + 0)), .inl x5, .inl (wI (x6 + 1)), .inl y8]) zf167_132 rfl rfl rfl).trans ?_
      refine (R_goto (t := 33) zf167_135 rfl).trans ?_
      rfl
    · refine (R_iconst zf167_124 zw_1 rfl).trans ?_
      refine (R_goto (t := 129) zf167_125 rfl).trans ?_
      refine (R_iadd zf167_129 rfl).trans ?_
      refine (R_istore (ls' := [.inr (.inr (.inl 0)), .inl x0, .inl x1, .inl x2, .inl x3, .inl (wI (x4 + 1)), .inl x5, .inl x6, .inl y8]) zf167_130 (Nat.le_of_ble_eq_true rfl) rfl rfl).trans ?_
      refine (R_iinc (ls' := [.inr (.inr (.inl 0)), .inl x0, .inl x1, .inl x2, .inl x3, .inl (wI (x4 + 1)), .inl x5, .inl (wI (x6 + 1)), .inl y8]) zf167_132 rfl rfl rfl).trans ?_
      refine (R_goto (t := 33) zf167_135 rfl).trans ?_
      rfl
  · refine (R_iload zf167_101 rfl rfl).trans ?_
    refine (R_iload zf167_103 rfl rfl).trans ?_
    refine (R_icmp_ne (t := 117) zf167_105 rfl rfl).trans ?_
    refine ite_congr rfl (fun c3_ => ?_) (fun c3_ => ?_)
    · refine (R_iload zf167_117 rfl rfl).trans ?_
      refine (R_iload zf167_119 rfl rfl).trans ?_
      refine (R_if_eq (t := 128) zf167_121 rfl rfl).trans ?_
      refine ite_congr rfl (fun c4_ => ?_) (fun c4_ => ?_)
      · refine (R_iconst zf167_128 zw_0 rfl).trans ?_
        refine (R_iadd zf167_129 rfl).trans ?_
        refine (R_istore (ls' := [.inr (.inr (.inl 0)), .inl x0, .inl x1, .inl x2, .inl x3, .inl (wI (x4 + 0)), .inl x5, .inl x6, .inl y8]) zf167_130 (Nat.le_of_ble_eq_true rfl) rfl rfl).trans ?_
        refine (R_iinc (ls' := [.inr (.inr (.inl 0)), .inl x0, .inl x1, .inl x2, .inl x3, .inl (wI (x4 + 0)), .inl x5, .inl (wI (x6 + 1)), .inl y8]) zf167_132 rfl rfl rfl).trans ?_
        refine (R_goto (t := 33) zf167_135 rfl).trans ?_
        rfl
      · refine (R_iconst zf167_124 zw_1 rfl).trans ?_
        refine (R_goto (t := 129) zf167_125 rfl).trans ?_
        refine (R_iadd zf167_129 rfl).trans ?_
        refine (R_istore (ls' := [.inr (.inr (.inl 0)), .inl x0, .inl x1, .inl x2, .inl x3, .inl (wI (x4 + 1)), .inl x5, .inl x6, .inl y8]) zf167_130 (Nat.le_of_ble_eq_true rfl) rfl rfl).trans ?_
        refine (R_iinc (ls' := [.inr (.inr (.inl 0)), .inl x0, .inl x1, .inl x2, .inl x3, .inl (wI (x4 + 1)), .inl x5, .inl (wI (x6 + 1)), .inl y8]) zf167_132 rfl rfl rfl).trans ?_
        refine (R_goto (t := 33) zf167_135 rfl).trans ?_
        rfl
    · refine (R_bipush zf167_108 zb_10 rfl).trans ?_
      refine (R_iload zf167_110 rfl rfl).trans ?_
      refine (R_imul zf167_112 rfl).trans ?_
      refine (R_iload zf167_113 rfl rfl).trans ?_
      refine (R_iadd zf167_115 rfl).trans ?_
      exact R_ireturn_i zf167_116 zr_167
-- CannonPostModel.look()I at 43
theorem q188_43 (d : Nat) (h : MH) : Run d 188 43 [.inr (.inr (.inl 97))] [] h = (if (h 97 9) ≤ (h 97 10) then some (some (.inl (-1)), h) else (if h 97 5 = 98 then (if 0 ≤ (wI ((h 97 8) + (h 97 10))) ∧ (wI ((h 97 8) + (h 97 10))) < 240 then some (some (.inl (iAnd (h 98 (wI ((h 97 8) + (h 97 10))).toNat) 255)), h) else none) else (if h 97 5 = 99 then (if 0 ≤ (wI ((h 97 8) + (h 97 10))) ∧ (wI ((h 97 8) + (h 97 10))) < 960 then some (some (.inl (iAnd (h 99 (wI ((h 97 8) + (h 97 10))).toNat) 255)), h) else none) else Run d 188 55 [.inr (.inr (.inl 97))] [.inr (.inr (.inl 97))] h))) := by
  refine (R_aload_n zf188_43 rfl zlt_97 rfl).trans ?_
  refine (R_getI zf188_44 zo_188 zfl_12_119 zk1_97 zft_12_10 rfl).trans ?_
  refine (R_aload_n zf188_47 rfl zlt_97 rfl).trans ?_
  refine (R_getI zf188_48 zo_188 zfl_12_122 zk1_97 zft_12_9 rfl).trans ?_
  refine (R_icmp_ge (t := 75) zf188_51 rfl rfl).trans ?_
  refine ite_congr rfl (fun c1_ => ?_) (fun c1_ => ?_)
  · refine (R_iconst zf188_75 zw_m1 rfl).trans ?_
    exact R_ireturn_i zf188_76 zr_188
  · refine (R_aload_n zf188_54 rfl zlt_97 rfl).trans ?_
    refine (switch_if (c := h 97 5 = 98) (fun c2_ => ?_) (fun c2_ => ?_))
    · refine (R_getMc (b := 98) zf188_55 zo_188 zfl_12_23 zk1_97 zft_12_5 c2_ rfl rfl).trans ?_
      refine (R_aload_n zf188_58 rfl zlt_97 rfl).trans ?_
      refine (R_getI zf188_59 zo_188 zfl_12_125 zk1_97 zft_12_8 rfl).trans ?_
      refine (R_aload_n zf188_62 rfl zlt_97 rfl).trans ?_
      refine (R_getI zf188_63 zo_188 zfl_12_119 zk1_97 zft_12_10 rfl).trans ?_
      refine (R_iadd zf188_66 rfl).trans ?_
      refine (R_bald zf188_67 zk_98 rfl).trans ?_
      refine ite_congr rfl (fun c3_ => ?_) (fun _ => rfl)
      refine (R_sipush zf188_68 zs_255 rfl).trans ?_
      refine (R_iand zf188_71 rfl).trans ?_
      refine (R_goto (t := 76) zf188_72 rfl).trans ?_
      exact R_ireturn_i zf188_76 zr_188
    refine (switch_if (c := h 97 5 = 99) (fun c4_ => ?_) (fun c4_ => ?_))
    · refine (R_getMc (b := 99) zf188_55 zo_188 zfl_12_23 zk1_97 zft_12_5 c4_ rfl rfl).trans ?_
      refine (R_aload_n zf188_58 rfl zlt_97 rfl).trans ?_
      refine (R_getI zf188_59 zo_188 zfl_12_125 zk1_97 zft_12_8 rfl).trans ?_
      refine (R_aload_n zf188_62 rfl zlt_97 rfl).trans ?_
      refine (R_getI zf188_63 zo_188 zfl_12_119 zk1_97 zft_12_10 rfl).trans ?_
      refine (R_iadd zf188_66 rfl).trans ?_
      refine (R_bald zf188_67 zk_99 rfl).trans ?_
      refine ite_congr rfl (fun c5_ => ?_) (fun _ => rfl)
      refine (R_sipush zf188_68 zs_255 rfl).trans ?_
      refine (R_iand zf188_71 rfl).trans ?_
      refine (R_goto (t := 76) zf188_72 rfl).trans ?_
      exact R_ireturn_i zf188_76 zr_188
    rfl
-- CannonPostModel.spotOf(Ljava/lang/String;I)I at 0
theorem q191_0 (d : Nat) (x0 : Int) (h : MH) : Run (d + 1) 191 0 [.inr (.inr (.inl 130)), .inl x0, vU] [] h = Run (d + 1) 191 2 [.inr (.inr (.inl 130)), .inl x0, .inl 0] [] h := by
  refine (R_iconst zf191_0 zw_0 rfl).trans ?_
  refine (R_istore_n (ls' := [.inr (.inr (.inl 130)), .inl x0, .inl 0]) zf191_1 (Nat.le_of_ble_eq_true rfl) rfl rfl).trans ?_
  rfl
-- CannonPostModel.digit(I)I at 0
theorem q215_0 (d : Nat) (x0 : Int) (h : MH) : Run (d + 1) 215 0 [.inr (.inr (.inl 97)), .inl x0, vU] [] h = (cI (Run d 188 0 [.inr (.inr (.inl 97))] [] h) fun a2_ h1_ => (cI (Run d 196 0 [.inr (.inr (.inl 97))] [] h1_) fun a4_ h3_ => (if a4_ = 0 then (cI (Run d 189 0 [.inr (.inr (.inl 97))] [] h3_) fun a7_ h6_ => some (some (.inl 0), h6_)) else (if (wI (a2_ - 48)) ≤ x0 then some (some (.inl (wI (a2_ - 48))), (up h3_ 97 10 (wI ((h3_ 97 10) + 1)))) else (cI (Run d 189 0 [.inr (.inr (.inl 97))] [] h3_) fun a10_ h9_ => some (some (.inl 0), h9_)))))) := by
  refine (R_aload_n zf215_0 rfl zlt_97 rfl).trans ?_
  refine (R_vcallI zf215_1 zo_215 zvl_12_138 (by rw [zr_188]; rfl) zl_188 (Nat.le_of_ble_eq_true rfl) rfl rfl (Nat.le_of_ble_eq_true rfl) (Nat.le_of_ble_eq_true rfl) (es := [.inr (.inr (.inl 97))]) rfl rfl zk1_97 zo_188).trans ?_
  refine congrArg (cI _) (funext fun a2_ => funext fun h1_ => ?_)
  refine (R_istore_n (ls' := [.inr (.inr (.inl 97)), .inl x0, .inl a2_]) zf215_4 (Nat.le_of_ble_eq_true rfl) rfl rfl).trans ?_
  refine (R_aload_n zf215_5 rfl zlt_97 rfl).trans ?_
  refine (R_vcallI zf215_6 zo_215 zvl_12_168 (by rw [zr_196]; rfl) zl_196 (Nat.le_of_ble_eq_true rfl) rfl rfl (Nat.le_of_ble_eq_true rfl) (Nat.le_of_ble_eq_true rfl) (es := [.inr (.inr (.inl 97))]) rfl rfl zk1_97 zo_196).trans ?_
  refine congrArg (cI _) (funext fun a4_ => funext fun h3_ => ?_)
  refine (R_if_eq (t := 20) zf215_9 rfl rfl).trans ?_
  refine ite_congr rfl (fun c5_ => ?_) (fun c5_ => ?_)
  · refine (R_aload_n zf215_20 rfl zlt_97 rfl).trans ?_
    refine (R_vcallI zf215_21 zo_215 zvl_12_134 (by rw [zr_189]; rfl) zl_189 (Nat.le_of_ble_eq_true rfl) rfl rfl (Nat.le_of_ble_eq_true rfl) (Nat.le_of_ble_eq_true rfl) (es := [.inr (.inr (.inl 97))]) rfl rfl zk1_97 zo_189).trans ?_
    refine congrArg (cI _) (funext fun a7_ => funext fun h6_ => ?_)
    refine (R_pop zf215_24 rfl rfl).trans ?_
    refine (R_iconst zf215_25 zw_0 rfl).trans ?_
    exact R_ireturn_i zf215_26 zr_215
  · refine (R_iload_n zf215_12 rfl rfl).trans ?_
    refine (R_bipush zf215_13 zb_48 rfl).trans ?_
    refine (R_isub zf215_15 rfl).trans ?_
    refine (R_iload_n zf215_16 rfl rfl).trans ?_
    refine (R_icmp_le (t := 27) zf215_17 rfl rfl).trans ?_
    refine ite_congr rfl (fun c8_ => ?_) (fun c8_ => ?_)
    · refine (R_aload_n zf215_27 rfl zlt_97 rfl).trans ?_
      refine (R_dup zf215_28 rfl rfl).trans ?_
      refine (R_getI zf215_29 zo_215 zfl_12_119 zk1_97 zft_12_10 rfl).trans ?_
      refine (R_iconst zf215_32 zw_1 rfl).trans ?_
      refine (R_iadd zf215_33 rfl).trans ?_
      refine (R_putI zf215_34 zo_215 zfl_12_119 zk1_97 zft_12_10 rfl).trans ?_
      refine (R_iload_n zf215_37 rfl rfl).trans ?_
      refine (R_bipush zf215_38 zb_48 rfl).trans ?_
      refine (R_isub zf215_40 rfl).trans ?_
      exact R_ireturn_i zf215_41 zr_215
    · refine (R_aload_n zf215_20 rfl zlt_97 rfl).trans ?_
      refine (R_vcallI zf215_21 zo_215 zvl_12_134 (by rw [zr_189]; rfl) zl_189 (Nat.le_of_ble_eq_true rfl) rfl rfl (Nat.le_of_ble_eq_true rfl) (Nat.le_of_ble_eq_true rfl) (es := [.inr (.inr (.inl 97))]) rfl rfl zk1_97 zo_189).trans ?_
      refine congrArg (cI _) (funext fun a10_ => funext fun h9_ => ?_)
      refine (R_pop zf215_24 rfl rfl).trans ?_
      refine (R_iconst zf215_25 zw_0 rfl).trans ?_
      exact R_ireturn_i zf215_26 zr_215
-- CannonPostModel.readStep(I)V at 104
theorem q214_104 (d : Nat) (x0 : Int) (x1 : Int) (y2 : Int) (y3 : Int) (h : MH) : Run (d + 1) 214 104 [.inr (.inr (.inl 97)), .inl x0, .inl x1, vU] [.inl y2, .inr (.inr (.inl 97)), .inl y3, .inr (.inr (.inl 108))] h = (cI (Run d 215 0 [.inr (.inr (.inl 97)), .inl y2, vU] [] h) fun a2_ h1_ => (if 0 ≤ y3 ∧ y3 < 320 then (if ¬ ((up h1_ 108 y3.toNat a2_) 97 11) = (-1) then some (none, (up h1_ 108 y3.toNat a2_)) else (if x1 = 0 then (cI (Run d 215 0 [.inr (.inr (.inl 97)), .inl 9, vU] [] (up h1_ 108 y3.toNat a2_)) fun a7_ h6_ => (if ¬ (h6_ 97 11) = (-1) then some (none, h6_) else (cI (Run d 215 0 [.inr (.inr (.inl 97)), .inl 9, vU] [] h6_) fun a10_ h9_ => (if 0 ≤ (wI (x0 + 3)) ∧ (wI (x0 + 3)) < 320 then some (none, (up h9_ 108 (wI (x0 + 3)).toNat (wI ((wI (10 * a7_)) + a10_)))) else none)))) else some (none, (up h1_ 108 y3.toNat a2_)))) else none)) := by
  refine (R_vcallI zf214_104 zo_214 zvl_12_269 (by rw [zr_215]; rfl) zl_215 (Nat.le_of_ble_eq_true rfl) rfl rfl (Nat.le_of_ble_eq_true rfl) (Nat.le_of_ble_eq_true rfl) (es := [.inr (.inr (.inl 97)), .inl y2, vU]) rfl rfl zk1_97 zo_215).trans ?_
  refine congrArg (cI _) (funext fun a2_ => funext fun h1_ => ?_)
  refine (R_iast zf214_107 zk_108 rfl).trans ?_
  refine ite_congr rfl (fun c3_ => ?_) (fun _ => rfl)
  refine (R_aload_n zf214_108 rfl zlt_97 rfl).trans ?_
  refine (R_getI zf214_109 zo_214 zfl_12_128 zk1_97 zft_12_11 rfl).trans ?_
  refine (R_iconst zf214_112 zw_m1 rfl).trans ?_
  refine (R_icmp_ne (t := 120) zf214_113 rfl rfl).trans ?_
  refine ite_congr rfl (fun c4_ => ?_) (fun c4_ => ?_)
  · exact R_return zf214_120 zr_214
  · refine (R_iload_n zf214_116 rfl rfl).trans ?_
    refine (R_if_eq (t := 121) zf214_117 rfl rfl).trans ?_
    refine ite_congr rfl (fun c5_ => ?_) (fun c5_ => ?_)
    · refine (R_aload_n zf214_121 rfl zlt_97 rfl).trans ?_
      refine (R_bipush zf214_122 zb_9 rfl).trans ?_
      refine (R_vcallI zf214_124 zo_214 zvl_12_269 (by rw [zr_215]; rfl) zl_215 (Nat.le_of_ble_eq_true rfl) rfl rfl (Nat.le_of_ble_eq_true rfl) (Nat.le_of_ble_eq_true rfl) (es := [.inr (.inr (.inl 97)), .inl 9, vU]) rfl rfl zk1_97 zo_215).trans ?_
      refine congrArg (cI _) (funext fun a7_ => funext fun h6_ => ?_)
      refine (R_istore_n (ls' := [.inr (.inr (.inl 97)), .inl x0, .inl x1, .inl a7_]) zf214_127 (Nat.le_of_ble_eq_true rfl) rfl rfl).trans ?_
      refine (R_aload_n zf214_128 rfl zlt_97 rfl).trans ?_
      refine (R_getI zf214_129 zo_214 zfl_12_128 zk1_97 zft_12_11 rfl).trans ?_
      refine (R_iconst zf214_132 zw_m1 rfl).trans ?_
      refine (R_icmp_ne (t := 155) zf214_133 rfl rfl).trans ?_
      refine ite_congr rfl (fun c8_ => ?_) (fun c8_ => ?_)
      · exact R_return zf214_155 zr_214
      · refine (R_aload_n zf214_136 rfl zlt_97 rfl).trans ?_
        refine (R_getR zf214_137 zo_214 zfl_12_55 zk1_97 zft_12_24 zmr_97_24 rfl).trans ?_
        refine (R_iload_n zf214_140 rfl rfl).trans ?_
        refine (R_iconst zf214_141 zw_3 rfl).trans ?_
        refine (R_iadd zf214_142 rfl).trans ?_
        refine (R_bipush zf214_143 zb_10 rfl).trans ?_
        refine (R_iload_n zf214_145 rfl rfl).trans ?_
        refine (R_imul zf214_146 rfl).trans ?_
        refine (R_aload_n zf214_147 rfl zlt_97 rfl).trans ?_
        refine (R_bipush zf214_148 zb_9 rfl).trans ?_
        refine (R_vcallI zf214_150 zo_214 zvl_12_269 (by rw [zr_215]; rfl) zl_215 (Nat.le_of_ble_eq_true rfl) rfl rfl (Nat.le_of_ble_eq_true rfl) (Nat.le_of_ble_eq_true rfl) (es := [.inr (.inr (.inl 97)), .inl 9, vU]) rfl rfl zk1_97 zo_215).trans ?_
        refine congrArg (cI _) (funext fun a10_ => funext fun h9_ => ?_)
        refine (R_iadd zf214_153 rfl).trans ?_
        refine (R_iast zf214_154 zk_108 rfl).trans ?_
        refine ite_congr rfl (fun c11_ => ?_) (fun _ => rfl)
        exact R_return zf214_155 zr_214
    · exact R_return zf214_120 zr_214
-- CannonPostModel.isAmong(Ljava/lang/String;I)Z at 2
theorem q201_2 (d : Nat) (x0 : Int) (x1 : Int) (h : MH) : Run (d + 1) 201 2 [.inr (.inr (.inl 126)), .inl x0, .inl x1] [] h = (cI (Run d 28 0 [.inr (.inr (.inl 126))] [] h) fun a2_ h1_ => (if a2_ ≤ x1 then some (some (.inl 0), h1_) else (cI (Run d 12 0 [.inr (.inr (.inl 126)), .inl x1] [] h1_) fun a5_ h4_ => (if ¬ a5_ = x0 then Run (d + 1) 201 2 [.inr (.inr (.inl 126)), .inl x0, .inl (wI (x1 + 1))] [] h4_ else some (some (.inl 1), h4_))))) := by
  refine (R_iload_n zf201_2 rfl rfl).trans ?_
  refine (R_aload_n zf201_3 rfl zlt_126 rfl).trans ?_
  refine (R_vcallI zf201_4 zo_201 zvl_12_99 (by rw [zr_28]; rfl) zl_28 (Nat.le_of_ble_eq_true rfl) rfl rfl (Nat.le_of_ble_eq_true rfl) (Nat.le_of_ble_eq_true rfl) (es := [.inr (.inr (.inl 126))]) rfl rfl zk1_126 zo_28).trans ?_
  refine congrArg (cI _) (funext fun a2_ => funext fun h1_ => ?_)
  refine (R_icmp_ge (t := 27) zf201_7 rfl rfl).trans ?_
  refine ite_congr rfl (fun c3_ => ?_) (fun c3_ => ?_)
  · refine (R_iconst zf201_27 zw_0 rfl).trans ?_
    exact R_ireturn zf201_28 (by rw [zr_201]; rfl)
  · refine (R_aload_n zf201_10 rfl zlt_126 rfl).trans ?_
    refine (R_iload_n zf201_11 rfl rfl).trans ?_
    refine (R_vcallI zf201_12 zo_201 zvl_12_105 (by rw [zr_12]; rfl) zl_12 (Nat.le_of_ble_eq_true rfl) rfl rfl (Nat.le_of_ble_eq_true rfl) (Nat.le_of_ble_eq_true rfl) (es := [.inr (.inr (.inl 126)), .inl x1]) rfl rfl zk1_126 zo_12).trans ?_
    refine congrArg (cI _) (funext fun a5_ => funext fun h4_ => ?_)
    refine (R_iload_n zf201_15 rfl rfl).trans ?_
    refine (R_icmp_ne (t := 21) zf201_16 rfl rfl).trans ?_
    refine ite_congr rfl (fun c6_ => ?_) (fun c6_ => ?_)
    · refine (R_iinc (ls' := [.inr (.inr (.inl 126)), .inl x0, .inl (wI (x1 + 1))]) zf201_21 rfl rfl rfl).trans ?_
      refine (R_goto (t := 2) zf201_24 rfl).trans ?_
      rfl
    · refine (R_iconst zf201_19 zw_1 rfl).trans ?_
      exact R_ireturn zf201_20 (by rw [zr_201]; rfl)
-- CannonPostModel.part(ZI)Z at 0
theorem q204_0 (d : Nat) (x0 : Int) (x1 : Int) (h : MH) : Run (d + 1) 204 0 [.inr (.inr (.inl 97)), .inl x0, .inl x1, vU, vU] [] h = (if x0 = 0 then (cI (Run d 212 0 [.inr (.inr (.inl 97)), vU, vU] [] h) fun a3_ h2_ => Run (d + 1) 204 18 [.inr (.inr (.inl 97)), .inl x0, .inl x1, .inl a3_, vU] [] h2_) else (cI (Run d 205 0 [.inr (.inr (.inl 97)), .inl 1, .inl x1, vU, vU, vU] [] h) fun a5_ h4_ => Run (d + 1) 204 18 [.inr (.inr (.inl 97)), .inl x0, .inl x1, .inl a5_, vU] [] h4_)) := by
  refine (R_iload_n zf204_0 rfl rfl).trans ?_
  refine (R_if_eq (t := 13) zf204_1 rfl rfl).trans ?_
  refine ite_congr rfl (fun c1_ => ?_) (fun c1_ => ?_)
  · refine (R_aload_n zf204_13 rfl zlt_97 rfl).trans ?_
    refine (R_vcallI zf204_14 zo_204 zvl_12_184 (by rw [zr_212]; rfl) zl_212 (Nat.le_of_ble_eq_true rfl) rfl rfl (Nat.le_of_ble_eq_true rfl) (Nat.le_of_ble_eq_true rfl) (es := [.inr (.inr (.inl 97)), vU, vU]) rfl rfl zk1_97 zo_212).trans ?_
    refine congrArg (cI _) (funext fun a3_ => funext fun h2_ => ?_)
    refine (R_istore_n (ls' := [.inr (.inr (.inl 97)), .inl x0, .inl x1, .inl a3_, vU]) zf204_17 (Nat.le_of_ble_eq_true rfl) rfl rfl).trans ?_
    rfl
  · refine (R_aload_n zf204_4 rfl zlt_97 rfl).trans ?_
    refine (R_iconst zf204_5 zw_1 rfl).trans ?_
    refine (R_iload_n zf204_6 rfl rfl).trans ?_
    refine (R_vcallI zf204_7 zo_204 zvl_12_191 (by rw [zr_205]; rfl) zl_205 (Nat.le_of_ble_eq_true rfl) rfl rfl (Nat.le_of_ble_eq_true rfl) (Nat.le_of_ble_eq_true rfl) (es := [.inr (.inr (.inl 97)), .inl 1, .inl x1, vU, vU, vU]) rfl rfl zk1_97 zo_205).trans ?_
    refine congrArg (cI _) (funext fun a5_ => funext fun h4_ => ?_)
    refine (R_goto (t := 17) zf204_10 rfl).trans ?_
    refine (R_istore_n (ls' := [.inr (.inr (.inl 97)), .inl x0, .inl x1, .inl a5_, vU]) zf204_17 (Nat.le_of_ble_eq_true rfl) rfl rfl).trans ?_
    rfl
-- CannonPostModel.condition(ZI)Z at 7
theorem q203_7 (d : Nat) (x0 : Int) (x1 : Int) (x2 : Int) (h : MH) : Run (d + 1) 203 7 [.inr (.inr (.inl 97)), .inl x0, .inl x1, .inl x2, vU] [] h = (if ¬ (h 97 11) = (-1) then (if x2 = 0 ∨ x2 = 1 then some (some (.inl x2), h) else none) else (cI (Run d 188 0 [.inr (.inr (.inl 97))] [] h) fun a3_ h2_ => (if ¬ a3_ = 124 then (if x2 = 0 ∨ x2 = 1 then some (some (.inl x2), h2_) else none) else (cI (Run d 204 0 [.inr (.inr (.inl 97)), .inl 0, .inl 0, vU, vU] [] (up h2_ 97 10 (wI ((h2_ 97 10) + 1)))) fun a6_ h5_ => (if ¬ x2 = 0 then Run (d + 1) 203 7 [.inr (.inr (.inl 97)), .inl x0, .inl x1, .inl 1, .inl a6_] [] h5_ else (if a6_ = 0 then Run (d + 1) 203 7 [.inr (.inr (.inl 97)), .inl x0, .inl x1, .inl 0, .inl a6_] [] h5_ else Run (d + 1) 203 7 [.inr (.inr (.inl 97)), .inl x0, .inl x1, .inl 1, .inl a6_] [] h5_)))))) := by
  refine (R_aload_n zf203_7 rfl zlt_97 rfl).trans ?_
  refine (R_getI zf203_8 zo_203 zfl_12_128 zk1_97 zft_12_11 rfl).trans ?_
  refine (R_iconst zf203_11 zw_m1 rfl).trans ?_
  refine (R_icmp_ne (t := 60) zf203_12 rfl rfl).trans ?_
  refine ite_congr rfl (fun c1_ => ?_) (fun c1_ => ?_)
  · refine (R_iload_n zf203_60 rfl rfl).trans ?_
    exact R_ireturn_z zf203_61 zr_203
  · refine (R_aload_n zf203_15 rfl zlt_97 rfl).trans ?_
    refine (R_vcallI zf203_16 zo_203 zvl_12_138 (by rw [zr_188]; rfl) zl_188 (Nat.le_of_ble_eq_true rfl) rfl rfl (Nat.le_of_ble_eq_true rfl) (Nat.le_of_ble_eq_true rfl) (es := [.inr (.inr (.inl 97))]) rfl rfl zk1_97 zo_188).trans ?_
    refine congrArg (cI _) (funext fun a3_ => funext fun h2_ => ?_)
    refine (R_bipush zf203_19 zb_124 rfl).trans ?_
    refine (R_icmp_ne (t := 60) zf203_21 rfl rfl).trans ?_
    refine ite_congr rfl (fun c4_ => ?_) (fun c4_ => ?_)
    · refine (R_iload_n zf203_60 rfl rfl).trans ?_
      exact R_ireturn_z zf203_61 zr_203
    · refine (R_aload_n zf203_24 rfl zlt_97 rfl).trans ?_
      refine (R_dup zf203_25 rfl rfl).trans ?_
      refine (R_getI zf203_26 zo_203 zfl_12_119 zk1_97 zft_12_10 rfl).trans ?_
      refine (R_iconst zf203_29 zw_1 rfl).trans ?_
      refine (R_iadd zf203_30 rfl).trans ?_
      refine (R_putI zf203_31 zo_203 zfl_12_119 zk1_97 zft_12_10 rfl).trans ?_
      refine (R_aload_n zf203_34 rfl zlt_97 rfl).trans ?_
      refine (R_iconst zf203_35 zw_0 rfl).trans ?_
      refine (R_iconst zf203_36 zw_0 rfl).trans ?_
      refine (R_vcallI zf203_37 zo_203 zvl_12_194 (by rw [zr_204]; rfl) zl_204 (Nat.le_of_ble_eq_true rfl) rfl rfl (Nat.le_of_ble_eq_true rfl) (Nat.le_of_ble_eq_true rfl) (es := [.inr (.inr (.inl 97)), .inl 0, .inl 0, vU, vU]) rfl rfl zk1_97 zo_204).trans ?_
      refine congrArg (cI _) (funext fun a6_ => funext fun h5_ => ?_)
      refine (R_istore (ls' := [.inr (.inr (.inl 97)), .inl x0, .inl x1, .inl x2, .inl a6_]) zf203_40 (Nat.le_of_ble_eq_true rfl) rfl rfl).trans ?_
      refine (R_iload_n zf203_42 rfl rfl).trans ?_
      refine (R_if_ne (t := 51) zf203_43 rfl rfl).trans ?_
      refine ite_congr rfl (fun c7_ => ?_) (fun c7_ => ?_)
      · refine (R_iconst zf203_51 zw_1 rfl).trans ?_
        refine (R_goto (t := 56) zf203_52 rfl).trans ?_
        refine (R_istore_n (ls' := [.inr (.inr (.inl 97)), .inl x0, .inl x1, .inl 1, .inl a6_]) zf203_56 (Nat.le_of_ble_eq_true rfl) rfl rfl).trans ?_
        refine (R_goto (t := 7) zf203_57 rfl).trans ?_
        rfl
      · refine (R_iload zf203_46 rfl rfl).trans ?_
        refine (R_if_eq (t := 55) zf203_48 rfl rfl).trans ?_
        refine ite_congr rfl (fun c8_ => ?_) (fun c8_ => ?_)
        · refine (R_iconst zf203_55 zw_0 rfl).trans ?_
          refine (R_istore_n (ls' := [.inr (.inr (.inl 97)), .inl x0, .inl x1, .inl 0, .inl a6_]) zf203_56 (Nat.le_of_ble_eq_true rfl) rfl rfl).trans ?_
          refine (R_goto (t := 7) zf203_57 rfl).trans ?_
          rfl
        · refine (R_iconst zf203_51 zw_1 rfl).trans ?_
          refine (R_goto (t := 56) zf203_52 rfl).trans ?_
          refine (R_istore_n (ls' := [.inr (.inr (.inl 97)), .inl x0, .inl x1, .inl 1, .inl a6_]) zf203_56 (Nat.le_of_ble_eq_true rfl) rfl rfl).trans ?_
          refine (R_goto (t := 7) zf203_57 rfl).trans ?_
          rfl
-- CannonPostModel.term()I at 0
theorem q207_0 (d : Nat) (h : MH) : Run (d + 1) 207 0 [.inr (.inr (.inl 97)), vU, vU, vU, vU] [] h = (cI (Run d 208 0 [.inr (.inr (.inl 97)), vU, vU, vU] [] h) fun a2_ h1_ => Run (d + 1) 207 5 [.inr (.inr (.inl 97)), .inl a2_, vU, vU, vU] [] h1_) := by
  refine (R_aload_n zf207_0 rfl zlt_97 rfl).trans ?_
  refine (R_vcallI zf207_1 zo_207 zvl_12_171 (by rw [zr_208]; rfl) zl_208 (Nat.le_of_ble_eq_true rfl) rfl rfl (Nat.le_of_ble_eq_true rfl) (Nat.le_of_ble_eq_true rfl) (es := [.inr (.inr (.inl 97)), vU, vU, vU]) rfl rfl zk1_97 zo_208).trans ?_
  refine congrArg (cI _) (funext fun a2_ => funext fun h1_ => ?_)
  refine (R_istore_n (ls' := [.inr (.inr (.inl 97)), .inl a2_, vU, vU, vU]) zf207_4 (Nat.le_of_ble_eq_true rfl) rfl rfl).trans ?_
  rfl
-- CannonPostModel.sum()I at 5
theorem q206_5 (d : Nat) (x0 : Int) (h : MH) : Run (d + 1) 206 5 [.inr (.inr (.inl 97)), .inl x0, vU, vU, vU] [] h = (if ¬ (h 97 11) = (-1) then some (some (.inl x0), h) else (cI (Run d 188 0 [.inr (.inr (.inl 97))] [] h) fun a3_ h2_ => (if a3_ = 43 then (cI (Run d 188 0 [.inr (.inr (.inl 97))] [] h2_) fun a6_ h5_ => (if ¬ a6_ = 43 then Run (d + 1) 206 45 [.inr (.inr (.inl 97)), .inl x0, vU, vU, vU] [.inl 0] h5_ else Run (d + 1) 206 45 [.inr (.inr (.inl 97)), .inl x0, vU, vU, vU] [.inl 1] h5_)) else (cI (Run d 188 0 [.inr (.inr (.inl 97))] [] h2_) fun a9_ h8_ => (if ¬ a9_ = 45 then some (some (.inl x0), h8_) else (cI (Run d 188 0 [.inr (.inr (.inl 97))] [] h8_) fun a12_ h11_ => (if ¬ a12_ = 43 then Run (d + 1) 206 45 [.inr (.inr (.inl 97)), .inl x0, vU, vU, vU] [.inl 0] h11_ else Run (d + 1) 206 45 [.inr (.inr (.inl 97)), .inl x0, vU, vU, vU] [.inl 1] h11_))))))) := by
  refine (R_aload_n zf206_5 rfl zlt_97 rfl).trans ?_
  refine (R_getI zf206_6 zo_206 zfl_12_128 zk1_97 zft_12_11 rfl).trans ?_
  refine (R_iconst zf206_9 zw_m1 rfl).trans ?_
  refine (R_icmp_ne (t := 84) zf206_10 rfl rfl).trans ?_
  refine ite_congr rfl (fun c1_ => ?_) (fun c1_ => ?_)
  · refine (R_iload_n zf206_84 rfl rfl).trans ?_
    exact R_ireturn_i zf206_85 zr_206
  · refine (R_aload_n zf206_13 rfl zlt_97 rfl).trans ?_
    refine (R_vcallI zf206_14 zo_206 zvl_12_138 (by rw [zr_188]; rfl) zl_188 (Nat.le_of_ble_eq_true rfl) rfl rfl (Nat.le_of_ble_eq_true rfl) (Nat.le_of_ble_eq_true rfl) (es := [.inr (.inr (.inl 97))]) rfl rfl zk1_97 zo_188).trans ?_
    refine congrArg (cI _) (funext fun a3_ => funext fun h2_ => ?_)
    refine (R_bipush zf206_17 zb_43 rfl).trans ?_
    refine (R_icmp_eq (t := 31) zf206_19 rfl rfl).trans ?_
    refine ite_congr rfl (fun c4_ => ?_) (fun c4_ => ?_)
    · refine (R_aload_n zf206_31 rfl zlt_97 rfl).trans ?_
      refine (R_vcallI zf206_32 zo_206 zvl_12_138 (by rw [zr_188]; rfl) zl_188 (Nat.le_of_ble_eq_true rfl) rfl rfl (Nat.le_of_ble_eq_true rfl) (Nat.le_of_ble_eq_true rfl) (es := [.inr (.inr (.inl 97))]) rfl rfl zk1_97 zo_188).trans ?_
      refine congrArg (cI _) (funext fun a6_ => funext fun h5_ => ?_)
      refine (R_bipush zf206_35 zb_43 rfl).trans ?_
      refine (R_icmp_ne (t := 44) zf206_37 rfl rfl).trans ?_
      refine ite_congr rfl (fun c7_ => ?_) (fun c7_ => ?_)
      · refine (R_iconst zf206_44 zw_0 rfl).trans ?_
        rfl
      · refine (R_iconst zf206_40 zw_1 rfl).trans ?_
        refine (R_goto (t := 45) zf206_41 rfl).trans ?_
        rfl
    · refine (R_aload_n zf206_22 rfl zlt_97 rfl).trans ?_
      refine (R_vcallI zf206_23 zo_206 zvl_12_138 (by rw [zr_188]; rfl) zl_188 (Nat.le_of_ble_eq_true rfl) rfl rfl (Nat.le_of_ble_eq_true rfl) (Nat.le_of_ble_eq_true rfl) (es := [.inr (.inr (.inl 97))]) rfl rfl zk1_97 zo_188).trans ?_
      refine congrArg (cI _) (funext fun a9_ => funext fun h8_ => ?_)
      refine (R_bipush zf206_26 zb_45 rfl).trans ?_
      refine (R_icmp_ne (t := 84) zf206_28 rfl rfl).trans ?_
      refine ite_congr rfl (fun c10_ => ?_) (fun c10_ => ?_)
      · refine (R_iload_n zf206_84 rfl rfl).trans ?_
        exact R_ireturn_i zf206_85 zr_206
      · refine (R_aload_n zf206_31 rfl zlt_97 rfl).trans ?_
        refine (R_vcallI zf206_32 zo_206 zvl_12_138 (by rw [zr_188]; rfl) zl_188 (Nat.le_of_ble_eq_true rfl) rfl rfl (Nat.le_of_ble_eq_true rfl) (Nat.le_of_ble_eq_true rfl) (es := [.inr (.inr (.inl 97))]) rfl rfl zk1_97 zo_188).trans ?_
        refine congrArg (cI _) (funext fun a12_ => funext fun h11_ => ?_)
        refine (R_bipush zf206_35 zb_43 rfl).trans ?_
        refine (R_icmp_ne (t := 44) zf206_37 rfl rfl).trans ?_
        refine ite_congr rfl (fun c13_ => ?_) (fun c13_ => ?_)
        · refine (R_iconst zf206_44 zw_0 rfl).trans ?_
          rfl
        · refine (R_iconst zf206_40 zw_1 rfl).trans ?_
          refine (R_goto (t := 45) zf206_41 rfl).trans ?_
          rfl
-- CannonPostModel.isWhole()Z at 0
theorem q198_0 (d : Nat) (h : MH) : Run d 198 0 [.inr (.inr (.inl 97)), vU, vU] [] h = Run d 198 2 [.inr (.inr (.inl 97)), .inl 0, vU] [] h := by
  refine (R_iconst zf198_0 zw_0 rfl).trans ?_
  refine (R_istore_n (ls' := [.inr (.inr (.inl 97)), .inl 0, vU]) zf198_1 (Nat.le_of_ble_eq_true rfl) rfl rfl).trans ?_
  rfl
-- CannonPostModel.readClause()V at 18
theorem q187_18 (d : Nat) (x0 : Int) (h : MH) : Run (d + 1) 187 18 [.inr (.inr (.inl 97)), .inl x0, vU] [] h = (if ¬ x0 = 102 then (if ¬ x0 = 99 then Run (d + 1) 187 52 [.inr (.inr (.inl 97)), .inl x0, vU] [.inl 0] h else (if 5 ≤ (h 97 29) then Run (d + 1) 187 52 [.inr (.inr (.inl 97)), .inl x0, vU] [.inl 0] h else Run (d + 1) 187 52 [.inr (.inr (.inl 97)), .inl x0, vU] [.inl 1] h)) else (if (h 97 28) < 8 then Run (d + 1) 187 52 [.inr (.inr (.inl 97)), .inl x0, vU] [.inl 1] h else (if ¬ x0 = 99 then Run (d + 1) 187 52 [.inr (.inr (.inl 97)), .inl x0, vU] [.inl 0] h else (if 5 ≤ (h 97 29) then Run (d + 1) 187 52 [.inr (.inr (.inl 97)), .inl x0, vU] [.inl 0] h else Run (d + 1) 187 52 [.inr (.inr (.inl 97)), .inl x0, vU] [.inl 1] h)))) := by
  refine (R_iload_n zf187_18 rfl rfl).trans ?_
  refine (R_bipush zf187_19 zb_102 rfl).trans ?_
  refine (R_icmp_ne (t := 33) zf187_21 rfl rfl).trans ?_
  refine ite_congr rfl (fun c1_ => ?_) (fun c1_ => ?_)
  · refine (R_iload_n zf187_33 rfl rfl).trans ?_
    refine (R_bipush zf187_34 zb_99 rfl).trans ?_
    refine (R_icmp_ne (t := 51) zf187_36 rfl rfl).trans ?_
    refine ite_congr rfl (fun c2_ => ?_) (fun c2_ => ?_)
    · refine (R_iconst zf187_51 zw_0 rfl).trans ?_
      rfl
    · refine (R_aload_n zf187_39 rfl zlt_97 rfl).trans ?_
      refine (R_getI zf187_40 zo_187 zfl_12_248 zk1_97 zft_12_29 rfl).trans ?_
      refine (R_iconst zf187_43 zw_5 rfl).trans ?_
      refine (R_icmp_ge (t := 51) zf187_44 rfl rfl).trans ?_
      refine ite_congr rfl (fun c3_ => ?_) (fun c3_ => ?_)
      · refine (R_iconst zf187_51 zw_0 rfl).trans ?_
        rfl
      · refine (R_iconst zf187_47 zw_1 rfl).trans ?_
        refine (R_goto (t := 52) zf187_48 rfl).trans ?_
        rfl
  · refine (R_aload_n zf187_24 rfl zlt_97 rfl).trans ?_
    refine (R_getI zf187_25 zo_187 zfl_12_245 zk1_97 zft_12_28 rfl).trans ?_
    refine (R_bipush zf187_28 zb_8 rfl).trans ?_
    refine (R_icmp_lt (t := 47) zf187_30 rfl rfl).trans ?_
    refine ite_congr rfl (fun c4_ => ?_) (fun c4_ => ?_)
    · refine (R_iconst zf187_47 zw_1 rfl).trans ?_
      refine (R_goto (t := 52) zf187_48 rfl).trans ?_
      rfl
    · refine (R_iload_n zf187_33 rfl rfl).trans ?_
      refine (R_bipush zf187_34 zb_99 rfl).trans ?_
      refine (R_icmp_ne (t := 51) zf187_36 rfl rfl).trans ?_
      refine ite_congr rfl (fun c5_ => ?_) (fun c5_ => ?_)
      · refine (R_iconst zf187_51 zw_0 rfl).trans ?_
        rfl
      · refine (R_aload_n zf187_39 rfl zlt_97 rfl).trans ?_
        refine (R_getI zf187_40 zo_187 zfl_12_248 zk1_97 zft_12_29 rfl).trans ?_
        refine (R_iconst zf187_43 zw_5 rfl).trans ?_
        refine (R_icmp_ge (t := 51) zf187_44 rfl rfl).trans ?_
        refine ite_congr rfl (fun c6_ => ?_) (fun c6_ => ?_)
        · refine (R_iconst zf187_51 zw_0 rfl).trans ?_
          rfl
        · refine (R_iconst zf187_47 zw_1 rfl).trans ?_
          refine (R_goto (t := 52) zf187_48 rfl).trans ?_
          rfl
-- CannonPostModel.readClause()V at 52
theorem q187_52 (d : Nat) (x0 : Int) (y1 : Int) (h : MH) : Run (d + 1) 187 52 [.inr (.inr (.inl 97)), .inl x0, vU] [.inl y1] h = (if ¬ y1 = 0 then (if ¬ x0 = 115 then (if ¬ x0 = 102 then (cV (Run d 190 0 [.inr (.inr (.inl 97)), .inl x0, .inr (.inr (.inl 107)), .inl (wI (3 * (wI (((up (up h 97 10 (wI ((h 97 10) + 1))) 97 29 (wI (((up h 97 10 (wI ((h 97 10) + 1))) 97 29) + 1))) 97 29) - 1)))), .inr (.inr (.inl 129)), vU, vU] [] (up (up h 97 10 (wI ((h 97 10) + 1))) 97 29 (wI (((up h 97 10 (wI ((h 97 10) + 1))) 97 29) + 1)))) fun h4_ => some (none, h4_)) else (cV (Run d 190 0 [.inr (.inr (.inl 97)), .inl x0, .inr (.inr (.inl 105)), .inl (wI (3 * (wI (((up (up h 97 10 (wI ((h 97 10) + 1))) 97 28 (wI (((up h 97 10 (wI ((h 97 10) + 1))) 97 28) + 1))) 97 28) - 1)))), .inr (.inr (.inl 128)), vU, vU] [] (up (up h 97 10 (wI ((h 97 10) + 1))) 97 28 (wI (((up h 97 10 (wI ((h 97 10) + 1))) 97 28) + 1)))) fun h5_ => some (none, h5_))) else (cV (Run d 190 0 [.inr (.inr (.inl 97)), .inl x0, .inr (.inr (.inl 103)), .inl 0, .inr (.inr (.inl 127)), vU, vU] [] (up (up h 97 10 (wI ((h 97 10) + 1))) 97 31 1)) fun h6_ => some (none, h6_))) else (cI (Run d 189 0 [.inr (.inr (.inl 97))] [] h) fun a8_ h7_ => some (none, h7_))) := by
  refine (R_istore_n (ls' := [.inr (.inr (.inl 97)), .inl x0, .inl y1]) zf187_52 (Nat.le_of_ble_eq_true rfl) rfl rfl).trans ?_
  refine (R_iload_n zf187_53 rfl rfl).trans ?_
  refine (R_if_ne (t := 63) zf187_54 rfl rfl).trans ?_
  refine ite_congr rfl (fun c1_ => ?_) (fun c1_ => ?_)
  · refine (R_aload_n zf187_63 rfl zlt_97 rfl).trans ?_
    refine (R_dup zf187_64 rfl rfl).trans ?_
    refine (R_getI zf187_65 zo_187 zfl_12_119 zk1_97 zft_12_10 rfl).trans ?_
    refine (R_iconst zf187_68 zw_1 rfl).trans ?_
    refine (R_iadd zf187_69 rfl).trans ?_
    refine (R_putI zf187_70 zo_187 zfl_12_119 zk1_97 zft_12_10 rfl).trans ?_
    refine (R_iload_n zf187_73 rfl rfl).trans ?_
    refine (R_bipush zf187_74 zb_115 rfl).trans ?_
    refine (R_icmp_ne (t := 99) zf187_76 rfl rfl).trans ?_
    refine ite_congr rfl (fun c2_ => ?_) (fun c2_ => ?_)
    · refine (R_iload_n zf187_99 rfl rfl).trans ?_
      refine (R_bipush zf187_100 zb_102 rfl).trans ?_
      refine (R_icmp_ne (t := 138) zf187_102 rfl rfl).trans ?_
      refine ite_congr rfl (fun c3_ => ?_) (fun c3_ => ?_)
      · refine (R_aload_n zf187_138 rfl zlt_97 rfl).trans ?_
        refine (R_dup zf187_139 rfl rfl).trans ?_
        refine (R_getI zf187_140 zo_187 zfl_12_248 zk1_97 zft_12_29 rfl).trans ?_
        refine (R_iconst zf187_143 zw_1 rfl).trans ?_
        refine (R_iadd zf187_144 rfl).trans ?_
        refine (R_putI zf187_145 zo_187 zfl_12_248 zk1_97 zft_12_29 rfl).trans ?_
        refine (R_aload_n zf187_148 rfl zlt_97 rfl).trans ?_
        refine (R_iload_n zf187_149 rfl rfl).trans ?_
        refine (R_aload_n zf187_150 rfl zlt_97 rfl).trans ?_
        refine (R_getR zf187_151 zo_187 zfl_12_52 zk1_97 zft_12_23 zmr_97_23 rfl).trans ?_
        refine (R_iconst zf187_154 zw_3 rfl).trans ?_
        refine (R_aload_n zf187_155 rfl zlt_97 rfl).trans ?_
        refine (R_getI zf187_156 zo_187 zfl_12_248 zk1_97 zft_12_29 rfl).trans ?_
        refine (R_iconst zf187_159 zw_1 rfl).trans ?_
        refine (R_isub zf187_160 rfl).trans ?_
        refine (R_imul zf187_161 rfl).trans ?_
        refine (R_ldc_wS zf187_162 zo_187 zcl_12_259 zrl_12_259 rfl).trans ?_
        refine (R_vcallV zf187_165 zo_187 zvl_12_253 zr_190 zl_190 (Nat.le_of_ble_eq_true rfl) rfl rfl (Nat.le_of_ble_eq_true rfl) (Nat.le_of_ble_eq_true rfl) (es := [.inr (.inr (.inl 97)), .inl x0, .inr (.inr (.inl 107)), .inl (wI (3 * (wI (((up (up h 97 10 (wI ((h 97 10) + 1))) 97 29 (wI (((up h 97 10 (wI ((h 97 10) + 1))) 97 29) + 1))) 97 29) - 1)))), .inr (.inr (.inl 129)), vU, vU]) rfl rfl zk1_97 zo_190).trans ?_
        refine congrArg (cV _) (funext fun h4_ => ?_)
        exact R_return zf187_168 zr_187
      · refine (R_aload_n zf187_105 rfl zlt_97 rfl).trans ?_
        refine (R_dup zf187_106 rfl rfl).trans ?_
        refine (R_getI zf187_107 zo_187 zfl_12_245 zk1_97 zft_12_28 rfl).trans ?_
        refine (R_iconst zf187_110 zw_1 rfl).trans ?_
        refine (R_iadd zf187_111 rfl).trans ?_
        refine (R_putI zf187_112 zo_187 zfl_12_245 zk1_97 zft_12_28 rfl).trans ?_
        refine (R_aload_n zf187_115 rfl zlt_97 rfl).trans ?_
        refine (R_iload_n zf187_116 rfl rfl).trans ?_
        refine (R_aload_n zf187_117 rfl zlt_97 rfl).trans ?_
        refine (R_getR zf187_118 zo_187 zfl_12_46 zk1_97 zft_12_21 zmr_97_21 rfl).trans ?_
        refine (R_iconst zf187_121 zw_3 rfl).trans ?_
        refine (R_aload_n zf187_122 rfl zlt_97 rfl).trans ?_
        refine (R_getI zf187_123 zo_187 zfl_12_245 zk1_97 zft_12_28 rfl).trans ?_
        refine (R_iconst zf187_126 zw_1 rfl).trans ?_
        refine (R_isub zf187_127 rfl).trans ?_
        refine (R_imul zf187_128 rfl).trans ?_
        refine (R_ldc_wS zf187_129 zo_187 zcl_12_257 zrl_12_257 rfl).trans ?_
        refine (R_vcallV zf187_132 zo_187 zvl_12_253 zr_190 zl_190 (Nat.le_of_ble_eq_true rfl) rfl rfl (Nat.le_of_ble_eq_true rfl) (Nat.le_of_ble_eq_true rfl) (es := [.inr (.inr (.inl 97)), .inl x0, .inr (.inr (.inl 105)), .inl (wI (3 * (wI (((up (up h 97 10 (wI ((h 97 10) + 1))) 97 28 (wI (((up h 97 10 (wI ((h 97 10) + 1))) 97 28) + 1))) 97 28) - 1)))), .inr (.inr (.inl 128)), vU, vU]) rfl rfl zk1_97 zo_190).trans ?_
        refine congrArg (cV _) (funext fun h5_ => ?_)
        refine (R_goto (t := 168) zf187_135 rfl).trans ?_
        exact R_return zf187_168 zr_187
    · refine (R_aload_n zf187_79 rfl zlt_97 rfl).trans ?_
      refine (R_iconst zf187_80 zw_1 rfl).trans ?_
      refine (R_putZ zf187_81 zo_187 zfl_12_242 zk1_97 zft_12_31 rfl rfl).trans ?_
      refine (R_aload_n zf187_84 rfl zlt_97 rfl).trans ?_
      refine (R_iload_n zf187_85 rfl rfl).trans ?_
      refine (R_aload_n zf187_86 rfl zlt_97 rfl).trans ?_
      refine (R_getR zf187_87 zo_187 zfl_12_40 zk1_97 zft_12_19 zmr_97_19 rfl).trans ?_
      refine (R_iconst zf187_90 zw_0 rfl).trans ?_
      refine (R_ldcS zf187_91 zo_187 zcl_12_251 zrl_12_251 rfl).trans ?_
      refine (R_vcallV zf187_93 zo_187 zvl_12_253 zr_190 zl_190 (Nat.le_of_ble_eq_true rfl) rfl rfl (Nat.le_of_ble_eq_true rfl) (Nat.le_of_ble_eq_true rfl) (es := [.inr (.inr (.inl 97)), .inl x0, .inr (.inr (.inl 103)), .inl 0, .inr (.inr (.inl 127)), vU, vU]) rfl rfl zk1_97 zo_190).trans ?_
      refine congrArg (cV _) (funext fun h6_ => ?_)
      refine (R_goto (t := 168) zf187_96 rfl).trans ?_
      exact R_return zf187_168 zr_187
  · refine (R_aload_n zf187_57 rfl zlt_97 rfl).trans ?_
    refine (R_vcallI zf187_58 zo_187 zvl_12_134 (by rw [zr_189]; rfl) zl_189 (Nat.le_of_ble_eq_true rfl) rfl rfl (Nat.le_of_ble_eq_true rfl) (Nat.le_of_ble_eq_true rfl) (es := [.inr (.inr (.inl 97))]) rfl rfl zk1_97 zo_189).trans ?_
    refine congrArg (cI _) (funext fun a8_ => funext fun h7_ => ?_)
    refine (R_pop zf187_61 rfl rfl).trans ?_
    exact R_return zf187_62 zr_187
-- CannonPostModel.text(I)I at 300
theorem q216_300 (d : Nat) (x0 : Int) (x1 : Int) (x2 : Int) (h : MH) : Run (d + 1) 216 300 [.inr (.inr (.inl 97)), .inl x0, .inl x1, .inl x2] [] h = (if 277 ≤ x2 then Run (d + 1) 216 322 [.inr (.inr (.inl 97)), .inl x0, .inl x1, .inl 0] [] h else (if 0 ≤ x2 ∧ x2 < 277 then Run (d + 1) 216 300 [.inr (.inr (.inl 97)), .inl x0, .inl x1, .inl (wI (x2 + 1))] [] (up h 110 x2.toNat 0) else none)) := by
  refine (R_iload_n zf216_300 rfl rfl).trans ?_
  refine (R_sipush zf216_301 zs_277 rfl).trans ?_
  refine (R_icmp_ge (t := 320) zf216_304 rfl rfl).trans ?_
  refine ite_congr rfl (fun c1_ => ?_) (fun c1_ => ?_)
  · refine (R_iconst zf216_320 zw_0 rfl).trans ?_
    refine (R_istore_n (ls' := [.inr (.inr (.inl 97)), .inl x0, .inl x1, .inl 0]) zf216_321 (Nat.le_of_ble_eq_true rfl) rfl rfl).trans ?_
    rfl
  · refine (R_aload_n zf216_307 rfl zlt_97 rfl).trans ?_
    refine (R_getR zf216_308 zo_216 zfl_12_61 zk1_97 zft_12_32 zmr_97_32 rfl).trans ?_
    refine (R_iload_n zf216_311 rfl rfl).trans ?_
    refine (R_iconst zf216_312 zw_0 rfl).trans ?_
    refine (R_iast zf216_313 zk_110 rfl).trans ?_
    refine ite_congr rfl (fun c2_ => ?_) (fun _ => rfl)
    refine (R_iinc (ls' := [.inr (.inr (.inl 97)), .inl x0, .inl x1, .inl (wI (x2 + 1))]) zf216_314 rfl rfl rfl).trans ?_
    refine (R_goto (t := 300) zf216_317 rfl).trans ?_
    rfl
-- CannonPostModel.says([II)I at 5
theorem q250_5_1 (d : Nat) (x0 : Int) (x1 : Int) (x2 : Int) (h : MH) : Run (d + 1) 250 5 [.inr (.inr (.inl 97)), .inr (.inr (.inl 111)), .inl x0, .inl x1, .inl x2] [] h = (if 6 ≤ x2 then some (some (.inl x1), h) else (cI (Run d 217 0 [.inl x0] [] h) fun a3_ h2_ => (if 0 ≤ a3_ ∧ a3_ < 277 then (if 0 ≤ (wI (8 + (h2_ 111 a3_.toNat))) ∧ (wI (8 + (h2_ 111 a3_.toNat))) < 277 then (cI (Run d 192 0 [.inl (h2_ 111 (wI (8 + (h2_ 111 a3_.toNat))).toNat), .inl x2] [] h2_) fun a7_ h6_ => (if a7_ = 0 then Run (d + 1) 250 5 [.inr (.inr (.inl 97)), .inr (.inr (.inl 111)), .inl x0, .inl x1, .inl (wI (x2 + 1))] [] h6_ else (cI (Run d 76 0 [.inl x1] [] h6_) fun a10_ h9_ => (if (h9_ 102 3) ≤ a10_ then Run (d + 1) 250 5 [.inr (.inr (.inl 97)), .inr (.inr (.inl 111)), .inl x0, .inl x1, .inl (wI (x2 + 1))] [] h9_ else Run (d + 1) 250 5 [.inr (.inr (.inl 97)), .inr (.inr (.inl 111)), .inl x0, .inl (iOr x1 (iShl 1 x2)), .inl (wI (x2 + 1))] [] h9_)))) else none) else none))) := by
  refine (R_iload zf250_5 rfl rfl).trans ?_
  refine (R_bipush zf250_7 zb_6 rfl).trans ?_
  refine (R_icmp_ge (t := 57) zf250_9 rfl rfl).trans ?_
  refine ite_congr rfl (fun c1_ => ?_) (fun c1_ => ?_)
  · refine (R_iload_n zf250_57 rfl rfl).trans ?_
    exact R_ireturn_i zf250_58 zr_250
  · refine (R_aload_n zf250_12 rfl zlt_111 rfl).trans ?_
    refine (R_bipush zf250_13 zb_8 rfl).trans ?_
    refine (R_aload_n zf250_15 rfl zlt_111 rfl).trans ?_
    refine (R_iload_n zf250_16 rfl rfl).trans ?_
    refine (R_callI zf250_17 zo_250 zsl_12_300 (by rw [zr_217]; rfl) zl_217 (Nat.le_of_ble_eq_true rfl) rfl rfl (Nat.le_of_ble_eq_true rfl) (Nat.le_of_ble_eq_true rfl) (es := [.inl x0]) rfl rfl).trans ?_
    refine congrArg (cI _) (funext fun a3_ => funext fun h2_ => ?_)
    refine (R_iald zf250_20 zk_111 rfl).trans ?_
    refine ite_congr rfl (fun c4_ => ?_) (fun _ => rfl)
    refine (R_iadd zf250_21 rfl).trans ?_
    refine (R_iald zf250_22 zk_111 rfl).trans ?_
    refine ite_congr rfl (fun c5_ => ?_) (fun _ => rfl)
    refine (R_iload zf250_23 rfl rfl).trans ?_
    refine (R_callI zf250_25 zo_250 zsl_12_229 (by rw [zr_192]; rfl) zl_192 (Nat.le_of_ble_eq_true rfl) rfl rfl (Nat.le_of_ble_eq_true rfl) (Nat.le_of_ble_eq_true rfl) (es := [.inl (h2_ 111 (wI (8 + (h2_ 111 a3_.toNat))).toNat), .inl x2]) rfl rfl).trans ?_
    refine congrArg (cI _) (funext fun a7_ => funext fun h6_ => ?_)
    refine (R_if_eq (t := 51) zf250_28 rfl rfl).trans ?_
    refine ite_congr rfl (fun c8_ => ?_) (fun c8_ => ?_)
    · refine (R_iinc (ls' := [.inr (.inr (.inl 97)), .inr (.inr (.inl 111)), .inl x0, .inl x1, .inl (wI (x2 + 1))]) zf250_51 rfl rfl rfl).trans ?_
      refine (R_goto (t := 5) zf250_54 rfl).trans ?_
      rfl
    · refine (R_iload_n zf250_31 rfl rfl).trans ?_
      refine (R_callI zf250_32 zo_250 zsl_12_355 (by rw [zr_76]; rfl) zl_76 (Nat.le_of_ble_eq_true rfl) rfl rfl (Nat.le_of_ble_eq_true rfl) (Nat.le_of_ble_eq_true rfl) (es := [.inl x1]) rfl rfl).trans ?_
      refine congrArg (cI _) (funext fun a10_ => funext fun h9_ => ?_)
      refine (R_aload_n zf250_35 rfl zlt_97 rfl).trans ?_
      refine (R_getR zf250_36 zo_250 zfl_12_37 zk1_97 zft_12_18 zmr_97_18 rfl).trans ?_
      refine (R_iconst zf250_39 zw_3 rfl).trans ?_
      refine (R_ialdc zf250_40 zk_102 (by decide) rfl rfl).trans ?_
      refine (R_icmp_ge (t := 51) zf250_41 rfl rfl).trans ?_
      refine ite_congr rfl (fun c11_ => ?_) (fun c11_ => ?_)
      · refine (R_iinc (ls' := [.inr (.inr (.inl 97)), .inr (.inr (.inl 111)), .inl x0, .inl x1, .inl (wI (x2 + 1))]) zf250_51 rfl rfl rfl).trans ?_
        refine (R_goto (t := 5) zf250_54 rfl).trans ?_
        rfl
      · refine (R_iload_n zf250_44 rfl rfl).trans ?_
        refine (R_iconst zf250_45 zw_1 rfl).trans ?_
        refine (R_iload zf250_46 rfl rfl).trans ?_
        refine (R_ishl zf250_48 rfl).trans ?_
        refine (R_ior zf250_49 rfl).trans ?_
        refine (R_istore_n (ls' := [.inr (.inr (.inl 97)), .inr (.inr (.inl 111)), .inl x0, .inl (iOr x1 (iShl 1 x2)), .inl x2]) zf250_50 (Nat.le_of_ble_eq_true rfl) rfl rfl).trans ?_
        refine (R_iinc (ls' := [.inr (.inr (.inl 97)), .inr (.inr (.inl 111)), .inl x0, .inl (iOr x1 (iShl 1 x2)), .inl (wI (x2 + 1))]) zf250_51 rfl rfl rfl).trans ?_
        refine (R_goto (t := 5) zf250_54 rfl).trans ?_
        rfl
-- CannonPostModel.comesTo([IIIII)I at 0
theorem q231_0_1 (d : Nat) (x0 : Int) (x1 : Int) (x2 : Int) (x3 : Int) (h : MH) : Run (d + 1) 231 0 [.inr (.inr (.inl 97)), .inr (.inr (.inl 111)), .inl x0, .inl x1, .inl x2, .inl x3] [] h = (cI (Run d 232 0 [.inr (.inr (.inl 97)), .inl x0, .inl x1, .inl x2, .inl x3, .inl (h 111 32), .inl (h 111 33), .inl (h 111 34), vU] [] h) fun a2_ h1_ => some (some (.inl a2_), h1_)) := by
  refine (R_aload_n zf231_0 rfl zlt_97 rfl).trans ?_
  refine (R_iload_n zf231_1 rfl rfl).trans ?_
  refine (R_iload_n zf231_2 rfl rfl).trans ?_
  refine (R_iload zf231_3 rfl rfl).trans ?_
  refine (R_iload zf231_5 rfl rfl).trans ?_
  refine (R_aload_n zf231_7 rfl zlt_111 rfl).trans ?_
  refine (R_bipush zf231_8 zb_32 rfl).trans ?_
  refine (R_ialdc zf231_10 zk_111 (by decide) rfl rfl).trans ?_
  refine (R_aload_n zf231_11 rfl zlt_111 rfl).trans ?_
  refine (R_bipush zf231_12 zb_33 rfl).trans ?_
  refine (R_ialdc zf231_14 zk_111 (by decide) rfl rfl).trans ?_
  refine (R_aload_n zf231_15 rfl zlt_111 rfl).trans ?_
  refine (R_bipush zf231_16 zb_34 rfl).trans ?_
  refine (R_ialdc zf231_18 zk_111 (by decide) rfl rfl).trans ?_
  refine (R_vcallI zf231_19 zo_231 zvl_12_329 (by rw [zr_232]; rfl) zl_232 (Nat.le_of_ble_eq_true rfl) rfl rfl (Nat.le_of_ble_eq_true rfl) (Nat.le_of_ble_eq_true rfl) (es := [.inr (.inr (.inl 97)), .inl x0, .inl x1, .inl x2, .inl x3, .inl (h 111 32), .inl (h 111 33), .inl (h 111 34), vU]) rfl rfl zk1_97 zo_232).trans ?_
  refine congrArg (cI _) (funext fun a2_ => funext fun h1_ => ?_)
  exact R_ireturn_i zf231_22 zr_231
-- CannonPostModel.shoots([IIIII)I at 96
theorem q230_96_1 (d : Nat) (x0 : Int) (x1 : Int) (x2 : Int) (x3 : Int) (x4 : Int) (x5 : Int) (h : MH) : Run (d + 1) 230 96 [.inr (.inr (.inl 97)), .inr (.inr (.inl 111)), .inl x0, .inl x1, .inl x2, .inl x3, .inl x4, .inl x5, vU] [] h = (cI (Run d 217 0 [.inl x0] [] h) fun a2_ h1_ => (if 0 ≤ a2_ ∧ a2_ < 277 then (if 0 ≤ (wI (8 + x5)) ∧ (wI (8 + x5)) < 277 then (if 0 ≤ (wI (8 + x5)) ∧ (wI (8 + x5)) < 277 then (if ¬ ((up (up h1_ 111 a2_.toNat x5) 111 (wI (8 + x5)).toNat (iOr ((up h1_ 111 a2_.toNat x5) 111 (wI (8 + x5)).toNat) x3)) 111 36) = 60 then Run (d + 1) 230 166 [.inr (.inr (.inl 97)), .inr (.inr (.inl 111)), .inl x0, .inl x1, .inl x2, .inl x3, .inl x4, .inl x5, vU] [] (up (up h1_ 111 a2_.toNat x5) 111 (wI (8 + x5)).toNat (iOr ((up h1_ 111 a2_.toNat x5) 111 (wI (8 + x5)).toNat) x3)) else Run (d + 1) 230 128 [.inr (.inr (.inl 97)), .inr (.inr (.inl 111)), .inl x0, .inl x1, .inl x2, .inl x3, .inl x4, .inl x5, .inl 1] [] (up (up h1_ 111 a2_.toNat x5) 111 (wI (8 + x5)).toNat (iOr ((up h1_ 111 a2_.toNat x5) 111 (wI (8 + x5)).toNat) x3))) else none) else none) else none)) := by
  refine (R_aload_n zf230_96 rfl zlt_111 rfl).trans ?_
  refine (R_iload_n zf230_97 rfl rfl).trans ?_
  refine (R_callI zf230_98 zo_230 zsl_12_300 (by rw [zr_217]; rfl) zl_217 (Nat.le_of_ble_eq_true rfl) rfl rfl (Nat.le_of_ble_eq_true rfl) (Nat.le_of_ble_eq_true rfl) (es := [.inl x0]) rfl rfl).trans ?_
  refine congrArg (cI _) (funext fun a2_ => funext fun h1_ => ?_)
  refine (R_iload zf230_101 rfl rfl).trans ?_
  refine (R_iast zf230_103 zk_111 rfl).trans ?_
  refine ite_congr rfl (fun c3_ => ?_) (fun _ => rfl)
  refine (R_aload_n zf230_104 rfl zlt_111 rfl).trans ?_
  refine (R_bipush zf230_105 zb_8 rfl).trans ?_
  refine (R_iload zf230_107 rfl rfl).trans ?_
  refine (R_iadd zf230_109 rfl).trans ?_
  refine (R_dup2 zf230_110 rfl rfl rfl).trans ?_
  refine (R_iald zf230_111 zk_111 rfl).trans ?_
  refine ite_congr rfl (fun c4_ => ?_) (fun _ => rfl)
  refine (R_iload zf230_112 rfl rfl).trans ?_
  refine (R_ior zf230_114 rfl).trans ?_
  refine (R_iast zf230_115 zk_111 rfl).trans ?_
  refine ite_congr rfl (fun c5_ => ?_) (fun _ => rfl)
  refine (R_aload_n zf230_116 rfl zlt_111 rfl).trans ?_
  refine (R_bipush zf230_117 zb_36 rfl).trans ?_
  refine (R_ialdc zf230_119 zk_111 (by decide) rfl rfl).trans ?_
  refine (R_bipush zf230_120 zb_60 rfl).trans ?_
  refine (R_icmp_ne (t := 166) zf230_122 rfl rfl).trans ?_
  refine ite_congr rfl (fun c6_ => ?_) (fun c6_ => ?_)
  · rfl
  · refine (R_iconst zf230_125 zw_1 rfl).trans ?_
    refine (R_istore (ls' := [.inr (.inr (.inl 97)), .inr (.inr (.inl 111)), .inl x0, .inl x1, .inl x2, .inl x3, .inl x4, .inl x5, .inl 1]) zf230_126 (Nat.le_of_ble_eq_true rfl) rfl rfl).trans ?_
    rfl
-- CannonPostModel.shoots([IIIII)I at 166
theorem q230_166_2 (d : Nat) (x0 : Int) (x1 : Int) (x2 : Int) (x3 : Int) (x4 : Int) (x5 : Int) (h : MH) : Run (d + 1) 230 166 [.inr (.inr (.inl 97)), .inr (.inr (.inl 111)), .inl x0, .inl x1, .inl x2, .inl x3, .inl x4, .inl x5, vU] [] h = (if 0 ≤ (wI (37 + (wI (4 * (h 111 36))))) ∧ (wI (37 + (wI (4 * (h 111 36))))) < 277 then (if 0 ≤ (wI ((wI (37 + (wI (4 * (h 111 36))))) + 1)) ∧ (wI ((wI (37 + (wI (4 * (h 111 36))))) + 1)) < 277 then (if 0 ≤ (wI ((wI (37 + (wI (4 * (h 111 36))))) + 2)) ∧ (wI ((wI (37 + (wI (4 * (h 111 36))))) + 2)) < 277 then (if 0 ≤ (wI ((wI (37 + (wI (4 * (h 111 36))))) + 3)) ∧ (wI ((wI (37 + (wI (4 * (h 111 36))))) + 3)) < 277 then some (some (.inl x5), (up (up (up (up (up h 111 (wI (37 + (wI (4 * (h 111 36))))).toNat x0) 111 (wI ((wI (37 + (wI (4 * (h 111 36))))) + 1)).toNat x4) 111 (wI ((wI (37 + (wI (4 * (h 111 36))))) + 2)).toNat x5) 111 (wI ((wI (37 + (wI (4 * (h 111 36))))) + 3)).toNat x1) 111 36 (wI (((up (up (up (up h 111 (wI (37 + (wI (4 * (h 111 36))))).toNat x0) 111 (wI ((wI (37 + (wI (4 * (h 111 36))))) + 1)).toNat x4) 111 (wI ((wI (37 + (wI (4 * (h 111 36))))) + 2)).toNat x5) 111 (wI ((wI (37 + (wI (4 * (h 111 36))))) + 3)).toNat x1) 111 36) + 1)))) else none) else none) else none) else none) := by
  refine (R_bipush zf230_166 zb_37 rfl).trans ?_
  refine (R_iconst zf230_168 zw_4 rfl).trans ?_
  refine (R_aload_n zf230_169 rfl zlt_111 rfl).trans ?_
  refine (R_bipush zf230_170 zb_36 rfl).trans ?_
  refine (R_ialdc zf230_172 zk_111 (by decide) rfl rfl).trans ?_
  refine (R_imul zf230_173 rfl).trans ?_
  refine (R_iadd zf230_174 rfl).trans ?_
  refine (R_istore (ls' := [.inr (.inr (.inl 97)), .inr (.inr (.inl 111)), .inl x0, .inl x1, .inl x2, .inl x3, .inl x4, .inl x5, .inl (wI (37 + (wI (4 * (h 111 36)))))]) zf230_175 (Nat.le_of_ble_eq_true rfl) rfl rfl).trans ?_
  refine (R_aload_n zf230_177 rfl zlt_111 rfl).trans ?_
  refine (R_iload zf230_178 rfl rfl).trans ?_
  refine (R_iload_n zf230_180 rfl rfl).trans ?_
  refine (R_iast zf230_181 zk_111 rfl).trans ?_
  refine ite_congr rfl (fun c1_ => ?_) (fun _ => rfl)
  refine (R_aload_n zf230_182 rfl zlt_111 rfl).trans ?_
  refine (R_iload zf230_183 rfl rfl).trans ?_
  refine (R_iconst zf230_185 zw_1 rfl).trans ?_
  refine (R_iadd zf230_186 rfl).trans ?_
  refine (R_iload zf230_187 rfl rfl).trans ?_
  refine (R_iast zf230_189 zk_111 rfl).trans ?_
  refine ite_congr rfl (fun c2_ => ?_) (fun _ => rfl)
  refine (R_aload_n zf230_190 rfl zlt_111 rfl).trans ?_
  refine (R_iload zf230_191 rfl rfl).trans ?_
  refine (R_iconst zf230_193 zw_2 rfl).trans ?_
  refine (R_iadd zf230_194 rfl).trans ?_
  refine (R_iload zf230_195 rfl rfl).trans ?_
  refine (R_iast zf230_197 zk_111 rfl).trans ?_
  refine ite_congr rfl (fun c3_ => ?_) (fun _ => rfl)
  refine (R_aload_n zf230_198 rfl zlt_111 rfl).trans ?_
  refine (R_iload zf230_199 rfl rfl).trans ?_
  refine (R_iconst zf230_201 zw_3 rfl).trans ?_
  refine (R_iadd zf230_202 rfl).trans ?_
  refine (R_iload_n zf230_203 rfl rfl).trans ?_
  refine (R_iast zf230_204 zk_111 rfl).trans ?_
  refine ite_congr rfl (fun c4_ => ?_) (fun _ => rfl)
  refine (R_aload_n zf230_205 rfl zlt_111 rfl).trans ?_
  refine (R_bipush zf230_206 zb_36 rfl).trans ?_
  refine (R_dup2 zf230_208 rfl rfl rfl).trans ?_
  refine (R_ialdc zf230_209 zk_111 (by decide) rfl rfl).trans ?_
  refine (R_iconst zf230_210 zw_1 rfl).trans ?_
  refine (R_iadd zf230_211 rfl).trans ?_
  refine (R_iastc zf230_212 zk_111 (by decide) rfl rfl).trans ?_
  refine (R_iload zf230_213 rfl rfl).trans ?_
  exact R_ireturn_i zf230_215 zr_230
-- CannonPostModel.shoots([IIIII)I at 128
theorem q230_128_1 (d : Nat) (x0 : Int) (x1 : Int) (x2 : Int) (x3 : Int) (x4 : Int) (x5 : Int) (x6 : Int) (h : MH) : Run (d + 1) 230 128 [.inr (.inr (.inl 97)), .inr (.inr (.inl 111)), .inl x0, .inl x1, .inl x2, .inl x3, .inl x4, .inl x5, .inl x6] [] h = (if 236 < x6 then Run (d + 1) 230 166 [.inr (.inr (.inl 97)), .inr (.inr (.inl 111)), .inl x0, .inl x1, .inl x2, .inl x3, .inl x4, .inl x5, .inl x6] [] (up h 111 36 (wI ((h 111 36) - 1))) else (if 0 ≤ (wI ((wI (36 + x6)) + 4)) ∧ (wI ((wI (36 + x6)) + 4)) < 277 then (if 0 ≤ (wI (36 + x6)) ∧ (wI (36 + x6)) < 277 then Run (d + 1) 230 128 [.inr (.inr (.inl 97)), .inr (.inr (.inl 111)), .inl x0, .inl x1, .inl x2, .inl x3, .inl x4, .inl x5, .inl (wI (x6 + 1))] [] (up h 111 (wI (36 + x6)).toNat (h 111 (wI ((wI (36 + x6)) + 4)).toNat)) else none) else none)) := by
  refine (R_iload zf230_128 rfl rfl).trans ?_
  refine (R_sipush zf230_130 zs_236 rfl).trans ?_
  refine (R_icmp_gt (t := 158) zf230_133 rfl rfl).trans ?_
  refine ite_congr rfl (fun c1_ => ?_) (fun c1_ => ?_)
  · refine (R_aload_n zf230_158 rfl zlt_111 rfl).trans ?_
    refine (R_bipush zf230_159 zb_36 rfl).trans ?_
    refine (R_dup2 zf230_161 rfl rfl rfl).trans ?_
    refine (R_ialdc zf230_162 zk_111 (by decide) rfl rfl).trans ?_
    refine (R_iconst zf230_163 zw_1 rfl).trans ?_
    refine (R_isub zf230_164 rfl).trans ?_
    refine (R_iastc zf230_165 zk_111 (by decide) rfl rfl).trans ?_
    rfl
  · refine (R_aload_n zf230_136 rfl zlt_111 rfl).trans ?_
    refine (R_bipush zf230_137 zb_36 rfl).trans ?_
    refine (R_iload zf230_139 rfl rfl).trans ?_
    refine (R_iadd zf230_141 rfl).trans ?_
    refine (R_aload_n zf230_142 rfl zlt_111 rfl).trans ?_
    refine (R_bipush zf230_143 zb_36 rfl).trans ?_
    refine (R_iload zf230_145 rfl rfl).trans ?_
    refine (R_iadd zf230_147 rfl).trans ?_
    refine (R_iconst zf230_148 zw_4 rfl).trans ?_
    refine (R_iadd zf230_149 rfl).trans ?_
    refine (R_iald zf230_150 zk_111 rfl).trans ?_
    refine ite_congr rfl (fun c2_ => ?_) (fun _ => rfl)
    refine (R_iast zf230_151 zk_111 rfl).trans ?_
    refine ite_congr rfl (fun c3_ => ?_) (fun _ => rfl)
    refine (R_iinc (ls' := [.inr (.inr (.inl 97)), .inr (.inr (.inl 111)), .inl x0, .inl x1, .inl x2, .inl x3, .inl x4, .inl x5, .inl (wI (x6 + 1))]) zf230_152 rfl rfl rfl).trans ?_
    refine (R_goto (t := 128) zf230_155 rfl).trans ?_
    rfl
-- CannonPostModel.starts([BII)V at 0
theorem q185_0_1 (d : Nat) (x0 : Int) (x1 : Int) (h : MH) : Run d 185 0 [.inr (.inr (.inl 97)), .inr (.inr (.inl 99)), .inl x0, .inl x1] [] h = some (none, (up (up (up (up (up h 97 5 99) 97 8 x0) 97 9 x1) 97 10 0) 97 11 (-1))) := by
  refine (R_aload_n zf185_0 rfl zlt_97 rfl).trans ?_
  refine (R_aload_n zf185_1 rfl zlt_99 rfl).trans ?_
  refine (R_putR zf185_2 zo_185 zfl_12_23 zk1_97 zft_12_5 zk1_99 rfl).trans ?_
  refine (R_aload_n zf185_5 rfl zlt_97 rfl).trans ?_
  refine (R_iload_n zf185_6 rfl rfl).trans ?_
  refine (R_putI zf185_7 zo_185 zfl_12_125 zk1_97 zft_12_8 rfl).trans ?_
  refine (R_aload_n zf185_10 rfl zlt_97 rfl).trans ?_
  refine (R_iload_n zf185_11 rfl rfl).trans ?_
  refine (R_putI zf185_12 zo_185 zfl_12_122 zk1_97 zft_12_9 rfl).trans ?_
  refine (R_aload_n zf185_15 rfl zlt_97 rfl).trans ?_
  refine (R_iconst zf185_16 zw_0 rfl).trans ?_
  refine (R_putI zf185_17 zo_185 zfl_12_119 zk1_97 zft_12_10 rfl).trans ?_
  refine (R_aload_n zf185_20 rfl zlt_97 rfl).trans ?_
  refine (R_iconst zf185_21 zw_m1 rfl).trans ?_
  refine (R_putI zf185_22 zo_185 zfl_12_128 zk1_97 zft_12_11 rfl).trans ?_
  exact R_return zf185_25 zr_185
-- CannonPostModel.goThrough([BII)V at 32
theorem q199_32_1 (d : Nat) (x0 : Int) (x1 : Int) (h : MH) : Run (d + 1) 199 32 [.inr (.inr (.inl 97)), .inr (.inr (.inl 99)), .inl x0, .inl x1] [] h = (if ¬ (h 97 11) = (-1) then (if ¬ (h 97 11) = (-1) then some (none, h) else (cI (Run d 188 0 [.inr (.inr (.inl 97))] [] h) fun a4_ h3_ => (if a4_ = (-1) then some (none, h3_) else (cI (Run d 189 0 [.inr (.inr (.inl 97))] [] h3_) fun a7_ h6_ => some (none, h6_))))) else (cI (Run d 188 0 [.inr (.inr (.inl 97))] [] h) fun a9_ h8_ => (if ¬ a9_ = 59 then (if ¬ (h8_ 97 11) = (-1) then some (none, h8_) else (cI (Run d 188 0 [.inr (.inr (.inl 97))] [] h8_) fun a13_ h12_ => (if a13_ = (-1) then some (none, h12_) else (cI (Run d 189 0 [.inr (.inr (.inl 97))] [] h12_) fun a16_ h15_ => some (none, h15_))))) else (cV (Run d 200 0 [.inr (.inr (.inl 97)), vU, vU, vU, vU] [] (up h8_ 97 10 (wI ((h8_ 97 10) + 1)))) fun h17_ => Run (d + 1) 199 32 [.inr (.inr (.inl 97)), .inr (.inr (.inl 99)), .inl x0, .inl x1] [] h17_)))) := by
  refine (R_aload_n zf199_32 rfl zlt_97 rfl).trans ?_
  refine (R_getI zf199_33 zo_199 zfl_12_128 zk1_97 zft_12_11 rfl).trans ?_
  refine (R_iconst zf199_36 zw_m1 rfl).trans ?_
  refine (R_icmp_ne (t := 66) zf199_37 rfl rfl).trans ?_
  refine ite_congr rfl (fun c1_ => ?_) (fun c1_ => ?_)
  · refine (R_aload_n zf199_66 rfl zlt_97 rfl).trans ?_
    refine (R_getI zf199_67 zo_199 zfl_12_128 zk1_97 zft_12_11 rfl).trans ?_
    refine (R_iconst zf199_70 zw_m1 rfl).trans ?_
    refine (R_icmp_ne (t := 87) zf199_71 rfl rfl).trans ?_
    refine ite_congr rfl (fun c2_ => ?_) (fun c2_ => ?_)
    · exact R_return zf199_87 zr_199
    · refine (R_aload_n zf199_74 rfl zlt_97 rfl).trans ?_
      refine (R_vcallI zf199_75 zo_199 zvl_12_138 (by rw [zr_188]; rfl) zl_188 (Nat.le_of_ble_eq_true rfl) rfl rfl (Nat.le_of_ble_eq_true rfl) (Nat.le_of_ble_eq_true rfl) (es := [.inr (.inr (.inl 97))]) rfl rfl zk1_97 zo_188).trans ?_
      refine congrArg (cI _) (funext fun a4_ => funext fun h3_ => ?_)
      refine (R_iconst zf199_78 zw_m1 rfl).trans ?_
      refine (R_icmp_eq (t := 87) zf199_79 rfl rfl).trans ?_
      refine ite_congr rfl (fun c5_ => ?_) (fun c5_ => ?_)
      · exact R_return zf199_87 zr_199
      · refine (R_aload_n zf199_82 rfl zlt_97 rfl).trans ?_
        refine (R_vcallI zf199_83 zo_199 zvl_12_134 (by rw [zr_189]; rfl) zl_189 (Nat.le_of_ble_eq_true rfl) rfl rfl (Nat.le_of_ble_eq_true rfl) (Nat.le_of_ble_eq_true rfl) (es := [.inr (.inr (.inl 97))]) rfl rfl zk1_97 zo_189).trans ?_
        refine congrArg (cI _) (funext fun a7_ => funext fun h6_ => ?_)
        refine (R_pop zf199_86 rfl rfl).trans ?_
        exact R_return zf199_87 zr_199
  · refine (R_aload_n zf199_40 rfl zlt_97 rfl).trans ?_
    refine (R_vcallI zf199_41 zo_199 zvl_12_138 (by rw [zr_188]; rfl) zl_188 (Nat.le_of_ble_eq_true rfl) rfl rfl (Nat.le_of_ble_eq_true rfl) (Nat.le_of_ble_eq_true rfl) (es := [.inr (.inr (.inl 97))]) rfl rfl zk1_97 zo_188).trans ?_
    refine congrArg (cI _) (funext fun a9_ => funext fun h8_ => ?_)
    refine (R_bipush zf199_44 zb_59 rfl).trans ?_
    refine (R_icmp_ne (t := 66) zf199_46 rfl rfl).trans ?_
    refine ite_congr rfl (fun c10_ => ?_) (fun c10_ => ?_)
    · refine (R_aload_n zf199_66 rfl zlt_97 rfl).trans ?_
      refine (R_getI zf199_67 zo_199 zfl_12_128 zk1_97 zft_12_11 rfl).trans ?_
      refine (R_iconst zf199_70 zw_m1 rfl).trans ?_
      refine (R_icmp_ne (t := 87) zf199_71 rfl rfl).trans ?_
      refine ite_congr rfl (fun c11_ => ?_) (fun c11_ => ?_)
      · exact R_return zf199_87 zr_199
      · refine (R_aload_n zf199_74 rfl zlt_97 rfl).trans ?_
        refine (R_vcallI zf199_75 zo_199 zvl_12_138 (by rw [zr_188]; rfl) zl_188 (Nat.le_of_ble_eq_true rfl) rfl rfl (Nat.le_of_ble_eq_true rfl) (Nat.le_of_ble_eq_true rfl) (es := [.inr (.inr (.inl 97))]) rfl rfl zk1_97 zo_188).trans ?_
        refine congrArg (cI _) (funext fun a13_ => funext fun h12_ => ?_)
        refine (R_iconst zf199_78 zw_m1 rfl).trans ?_
        refine (R_icmp_eq (t := 87) zf199_79 rfl rfl).trans ?_
        refine ite_congr rfl (fun c14_ => ?_) (fun c14_ => ?_)
        · exact R_return zf199_87 zr_199
        · refine (R_aload_n zf199_82 rfl zlt_97 rfl).trans ?_
          refine (R_vcallI zf199_83 zo_199 zvl_12_134 (by rw [zr_189]; rfl) zl_189 (Nat.le_of_ble_eq_true rfl) rfl rfl (Nat.le_of_ble_eq_true rfl) (Nat.le_of_ble_eq_true rfl) (es := [.inr (.inr (.inl 97))]) rfl rfl zk1_97 zo_189).trans ?_
          refine congrArg (cI _) (funext fun a16_ => funext fun h15_ => ?_)
          refine (R_pop zf199_86 rfl rfl).trans ?_
          exact R_return zf199_87 zr_199
    · refine (R_aload_n zf199_49 rfl zlt_97 rfl).trans ?_
      refine (R_dup zf199_50 rfl rfl).trans ?_
      refine (R_getI zf199_51 zo_199 zfl_12_119 zk1_97 zft_12_10 rfl).trans ?_
      refine (R_iconst zf199_54 zw_1 rfl).trans ?_
      refine (R_iadd zf199_55 rfl).trans ?_
      refine (R_putI zf199_56 zo_199 zfl_12_119 zk1_97 zft_12_10 rfl).trans ?_
      refine (R_aload_n zf199_59 rfl zlt_97 rfl).trans ?_
      refine (R_vcallV zf199_60 zo_199 zvl_12_211 zr_200 zl_200 (Nat.le_of_ble_eq_true rfl) rfl rfl (Nat.le_of_ble_eq_true rfl) (Nat.le_of_ble_eq_true rfl) (es := [.inr (.inr (.inl 97)), vU, vU, vU, vU]) rfl rfl zk1_97 zo_200).trans ?_
      refine congrArg (cV _) (funext fun h17_ => ?_)
      refine (R_goto (t := 32) zf199_63 rfl).trans ?_
      rfl
-- CannonPostModel.layAims(I)V at 28
theorem q264_28_1 (d : Nat) (x0 : Int) (x1 : Int) (x2 : Int) (h : MH) : Run (d + 1) 264 28 [.inr (.inr (.inl 97)), .inl x0, .inl x1, .inl x2, vU, vU] [] h = (if (h 97 26) ≤ x1 then some (none, h) else Run (d + 1) 264 39 [.inr (.inr (.inl 97)), .inl x0, .inl x1, .inl 20, vU, vU] [] h) := by
  refine (R_iload_n zf264_28 rfl rfl).trans ?_
  refine (R_aload_n zf264_29 rfl zlt_97 rfl).trans ?_
  refine (R_getI zf264_30 zo_264 zfl_12_294 zk1_97 zft_12_26 rfl).trans ?_
  refine (R_icmp_ge (t := 151) zf264_33 rfl rfl).trans ?_
  refine ite_congr rfl (fun c1_ => ?_) (fun c1_ => ?_)
  · exact R_return zf264_151 zr_264
  · refine (R_bipush zf264_36 zb_20 rfl).trans ?_
    refine (R_istore_n (ls' := [.inr (.inr (.inl 97)), .inl x0, .inl x1, .inl 20, vU, vU]) zf264_38 (Nat.le_of_ble_eq_true rfl) rfl rfl).trans ?_
    rfl
-- CannonPostModel.layAims(I)V at 46
theorem q264_46 (d : Nat) (x0 : Int) (x1 : Int) (x2 : Int) (x3 : Int) (h : MH) : Run (d + 1) 264 46 [.inr (.inr (.inl 97)), .inl x0, .inl x1, .inl x2, .inl x3, vU] [] h = (if 2 ≤ x3 then Run (d + 1) 264 39 [.inr (.inr (.inl 97)), .inl x0, .inl x1, .inl (wI (x2 + (-1))), .inl x3, vU] [] h else (cI (Run d 231 0 [.inr (.inr (.inl 97)), .inr (.inr (.inl 110)), .inl x0, .inl x1, .inl x2, .inl x3] [] h) fun a3_ h2_ => (cI (Run d 235 0 [.inr (.inr (.inl 97)), .inl a3_, vU] [] h2_) fun a5_ h4_ => (if a5_ = (-1) then Run (d + 1) 264 46 [.inr (.inr (.inl 97)), .inl x0, .inl x1, .inl x2, .inl (wI (x3 + 1)), .inl a5_] [] h4_ else (if a5_ = x1 then Run (d + 1) 264 46 [.inr (.inr (.inl 97)), .inl x0, .inl x1, .inl x2, .inl (wI (x3 + 1)), .inl a5_] [] h4_ else (cI (Run d 234 0 [.inr (.inr (.inl 97)), .inl a5_] [] h4_) fun a9_ h8_ => (cI (Run d 234 0 [.inr (.inr (.inl 97)), .inl x1] [] h8_) fun a11_ h10_ => (if a9_ ≤ a11_ then (if ¬ x3 = 0 then Run (d + 1) 264 112 [.inr (.inr (.inl 97)), .inl x0, .inl x1, .inl x2, .inl x3, .inl a5_] [.inl 0, .inl 0] h10_ else Run (d + 1) 264 112 [.inr (.inr (.inl 97)), .inl x0, .inl x1, .inl x2, .inl x3, .inl a5_] [.inl 1, .inl 0] h10_) else (if ¬ x3 = 0 then Run (d + 1) 264 112 [.inr (.inr (.inl 97)), .inl x0, .inl x1, .inl x2, .inl x3, .inl a5_] [.inl 0, .inl 1] h10_ else Run (d + 1) 264 112 [.inr (.inr (.inl 97)), .inl x0, .inl x1, .inl x2, .inl x3, .inl a5_] [.inl 1, .inl 1] h10_))))))))) := by
  refine (R_iload zf264_46 rfl rfl).trans ?_
  refine (R_iconst zf264_48 zw_2 rfl).trans ?_
  refine (R_icmp_ge (t := 139) zf264_49 rfl rfl).trans ?_
  refine ite_congr rfl (fun c1_ => ?_) (fun c1_ => ?_)
  · refine (R_iinc (ls' := [.inr (.inr (.inl 97)), .inl x0, .inl x1, .inl (wI (x2 + (-1))), .inl x3, vU]) zf264_139 rfl rfl rfl).trans ?_
    refine (R_goto (t := 39) zf264_142 rfl).trans ?_
    rfl
  · refine (R_aload_n zf264_52 rfl zlt_97 rfl).trans ?_
    refine (R_aload_n zf264_53 rfl zlt_97 rfl).trans ?_
    refine (R_aload_n zf264_54 rfl zlt_97 rfl).trans ?_
    refine (R_getR zf264_55 zo_264 zfl_12_61 zk1_97 zft_12_32 zmr_97_32 rfl).trans ?_
    refine (R_iload_n zf264_58 rfl rfl).trans ?_
    refine (R_iload_n zf264_59 rfl rfl).trans ?_
    refine (R_iload_n zf264_60 rfl rfl).trans ?_
    refine (R_iload zf264_61 rfl rfl).trans ?_
    refine (R_vcallI zf264_63 zo_264 zvl_12_348 (by rw [zr_231]; rfl) zl_231 (Nat.le_of_ble_eq_true rfl) rfl rfl (Nat.le_of_ble_eq_true rfl) (Nat.le_of_ble_eq_true rfl) (es := [.inr (.inr (.inl 97)), .inr (.inr (.inl 110)), .inl x0, .inl x1, .inl x2, .inl x3]) rfl rfl zk1_97 zo_231).trans ?_
    refine congrArg (cI _) (funext fun a3_ => funext fun h2_ => ?_)
    refine (R_vcallI zf264_66 zo_264 zvl_12_352 (by rw [zr_235]; rfl) zl_235 (Nat.le_of_ble_eq_true rfl) rfl rfl (Nat.le_of_ble_eq_true rfl) (Nat.le_of_ble_eq_true rfl) (es := [.inr (.inr (.inl 97)), .inl a3_, vU]) rfl rfl zk1_97 zo_235).trans ?_
    refine congrArg (cI _) (funext fun a5_ => funext fun h4_ => ?_)
    refine (R_istore (ls' := [.inr (.inr (.inl 97)), .inl x0, .inl x1, .inl x2, .inl x3, .inl a5_]) zf264_69 (Nat.le_of_ble_eq_true rfl) rfl rfl).trans ?_
    refine (R_iload zf264_71 rfl rfl).trans ?_
    refine (R_iconst zf264_73 zw_m1 rfl).trans ?_
    refine (R_icmp_eq (t := 133) zf264_74 rfl rfl).trans ?_
    refine ite_congr rfl (fun c6_ => ?_) (fun c6_ => ?_)
    · refine (R_iinc (ls' := [.inr (.inr (.inl 97)), .inl x0, .inl x1, .inl x2, .inl (wI (x3 + 1)), .inl a5_]) zf264_133 rfl rfl rfl).trans ?_
      refine (R_goto (t := 46) zf264_136 rfl).trans ?_
      rfl
    · refine (R_iload zf264_77 rfl rfl).trans ?_
      refine (R_iload_n zf264_79 rfl rfl).trans ?_
      refine (R_icmp_eq (t := 133) zf264_80 rfl rfl).trans ?_
      refine ite_congr rfl (fun c7_ => ?_) (fun c7_ => ?_)
      · refine (R_iinc (ls' := [.inr (.inr (.inl 97)), .inl x0, .inl x1, .inl x2, .inl (wI (x3 + 1)), .inl a5_]) zf264_133 rfl rfl rfl).trans ?_
        refine (R_goto (t := 46) zf264_136 rfl).trans ?_
        rfl
      · refine (R_aload_n zf264_83 rfl zlt_97 rfl).trans ?_
        refine (R_iload zf264_84 rfl rfl).trans ?_
        refine (R_vcallI zf264_86 zo_264 zvl_12_326 (by rw [zr_234]; rfl) zl_234 (Nat.le_of_ble_eq_true rfl) rfl rfl (Nat.le_of_ble_eq_true rfl) (Nat.le_of_ble_eq_true rfl) (es := [.inr (.inr (.inl 97)), .inl a5_]) rfl rfl zk1_97 zo_234).trans ?_
        refine congrArg (cI _) (funext fun a9_ => funext fun h8_ => ?_)
        refine (R_aload_n zf264_89 rfl zlt_97 rfl).trans ?_
        refine (R_iload_n zf264_90 rfl rfl).trans ?_
        refine (R_vcallI zf264_91 zo_264 zvl_12_326 (by rw [zr_234]; rfl) zl_234 (Nat.le_of_ble_eq_true rfl) rfl rfl (Nat.le_of_ble_eq_true rfl) (Nat.le_of_ble_eq_true rfl) (es := [.inr (.inr (.inl 97)), .inl x1]) rfl rfl zk1_97 zo_234).trans ?_
        refine congrArg (cI _) (funext fun a11_ => funext fun h10_ => ?_)
        refine (R_icmp_le (t := 101) zf264_94 rfl rfl).trans ?_
        refine ite_congr rfl (fun c12_ => ?_) (fun c12_ => ?_)
        · refine (R_iconst zf264_101 zw_0 rfl).trans ?_
          refine (R_iload zf264_102 rfl rfl).trans ?_
          refine (R_if_ne (t := 111) zf264_104 rfl rfl).trans ?_
          refine ite_congr rfl (fun c13_ => ?_) (fun c13_ => ?_)
          · refine (R_iconst zf264_111 zw_0 rfl).trans ?_
            rfl
          · refine (R_iconst zf264_107 zw_1 rfl).trans ?_
            refine (R_goto (t := 112) zf264_108 rfl).trans ?_
            rfl
        · refine (R_iconst zf264_97 zw_1 rfl).trans ?_
          refine (R_goto (t := 102) zf264_98 rfl).trans ?_
          refine (R_iload zf264_102 rfl rfl).trans ?_
          refine (R_if_ne (t := 111) zf264_104 rfl rfl).trans ?_
          refine ite_congr rfl (fun c14_ => ?_) (fun c14_ => ?_)
          · refine (R_iconst zf264_111 zw_0 rfl).trans ?_
            rfl
          · refine (R_iconst zf264_107 zw_1 rfl).trans ?_
            refine (R_goto (t := 112) zf264_108 rfl).trans ?_
            rfl
-- CannonPostModel.relay(III)I at 97
theorem q272_97_2 (d : Nat) (x0 : Int) (x1 : Int) (x2 : Int) (x3 : Int) (x4 : Int) (x5 : Int) (x6 : Int) (h : MH) : Run (d + 1) 272 97 [.inr (.inr (.inl 97)), .inl x0, .inl x1, .inl x2, .inl x3, .inl x4, .inl x5, .inl x6] [] h = (if 4 ≤ x4 then some (some (.inl (-1)), h) else Run (d + 1) 272 106 [.inr (.inr (.inl 97)), .inl x0, .inl x1, .inl x2, .inl x3, .inl x4, .inl 0, .inl x6] [] h) := by
  refine (R_iload zf272_97 rfl rfl).trans ?_
  refine (R_iconst zf272_99 zw_4 rfl).trans ?_
  refine (R_icmp_ge (t := 193) zf272_100 rfl rfl).trans ?_
  refine ite_congr rfl (fun c1_ => ?_) (fun c1_ => ?_)
  · refine (R_iconst zf272_193 zw_m1 rfl).trans ?_
    exact R_ireturn_i zf272_194 zr_272
  · refine (R_iconst zf272_103 zw_0 rfl).trans ?_
    refine (R_istore (ls' := [.inr (.inr (.inl 97)), .inl x0, .inl x1, .inl x2, .inl x3, .inl x4, .inl 0, .inl x6]) zf272_104 (Nat.le_of_ble_eq_true rfl) rfl rfl).trans ?_
    rfl
-- CannonPostModel.canKnow(III)Z at 0
theorem q276_0 (d : Nat) (x0 : Int) (x1 : Int) (x2 : Int) (h : MH) : Run (d + 1) 276 0 [.inr (.inr (.inl 97)), .inl x0, .inl x1, .inl x2, vU, vU] [] h = (cI (Run d 192 0 [.inl x0, .inl x1] [] h) fun a2_ h1_ => (if a2_ = 0 then (if ¬ x2 = 0 then Run (d + 1) 276 19 [.inr (.inr (.inl 97)), .inl x0, .inl x1, .inl x2, .inl 0, vU] [] h1_ else some (some (.inl 0), h1_)) else some (some (.inl 1), h1_))) := by
  refine (R_iload_n zf276_0 rfl rfl).trans ?_
  refine (R_iload_n zf276_1 rfl rfl).trans ?_
  refine (R_callI zf276_2 zo_276 zsl_12_229 (by rw [zr_192]; rfl) zl_192 (Nat.le_of_ble_eq_true rfl) rfl rfl (Nat.le_of_ble_eq_true rfl) (Nat.le_of_ble_eq_true rfl) (es := [.inl x0, .inl x1]) rfl rfl).trans ?_
  refine congrArg (cI _) (funext fun a2_ => funext fun h1_ => ?_)
  refine (R_if_eq (t := 10) zf276_5 rfl rfl).trans ?_
  refine ite_congr rfl (fun c3_ => ?_) (fun c3_ => ?_)
  · refine (R_iload_n zf276_10 rfl rfl).trans ?_
    refine (R_if_ne (t := 16) zf276_11 rfl rfl).trans ?_
    refine ite_congr rfl (fun c4_ => ?_) (fun c4_ => ?_)
    · refine (R_iconst zf276_16 zw_0 rfl).trans ?_
      refine (R_istore (ls' := [.inr (.inr (.inl 97)), .inl x0, .inl x1, .inl x2, .inl 0, vU]) zf276_17 (Nat.le_of_ble_eq_true rfl) rfl rfl).trans ?_
      rfl
    · refine (R_iconst zf276_14 zw_0 rfl).trans ?_
      exact R_ireturn zf276_15 (by rw [zr_276]; rfl)
  · refine (R_iconst zf276_8 zw_1 rfl).trans ?_
    exact R_ireturn zf276_9 (by rw [zr_276]; rfl)
-- CannonPostModel.ask(II)I at 125
theorem q280_125 (d : Nat) (x0 : Int) (x1 : Int) (x2 : Int) (x3 : Int) (x4 : Int) (x5 : Int) (x6 : Int) (x7 : Int) (x8 : Int) (h : MH) : Run (d + 1) 280 125 [.inr (.inr (.inl 97)), .inl x0, .inl x1, .inl x2, .inl x3, .inl x4, .inl x5, .inl x6, .inl x7, .inl x8, vU] [] h = (if 20 ≤ x8 then (if x3 = (-1) then Run (d + 1) 280 85 [.inr (.inr (.inl 97)), .inl x0, .inl x1, .inl x2, .inl (wI ((wI (100 * x5)) + x6)), .inl x7, .inl x5, .inl (wI (x6 + 1)), .inl x7, .inl x8, vU] [] h else (if x7 < x4 then Run (d + 1) 280 85 [.inr (.inr (.inl 97)), .inl x0, .inl x1, .inl x2, .inl (wI ((wI (100 * x5)) + x6)), .inl x7, .inl x5, .inl (wI (x6 + 1)), .inl x7, .inl x8, vU] [] h else Run (d + 1) 280 85 [.inr (.inr (.inl 97)), .inl x0, .inl x1, .inl x2, .inl x3, .inl x4, .inl x5, .inl (wI (x6 + 1)), .inl x7, .inl x8, vU] [] h)) else (cI (Run d 192 0 [.inl x2, .inl x8] [] h) fun a5_ h4_ => (if ¬ a5_ = 0 then (cI (Run d 232 0 [.inr (.inr (.inl 97)), .inl x0, .inl x1, .inl x6, .inl x5, .inl (x8.tmod 10), .inl (wI (x8.tdiv 10)), .inl 0, vU] [] h4_) fun a8_ h7_ => (cI (Run d 234 0 [.inr (.inr (.inl 97)), .inl x1] [] h7_) fun a10_ h9_ => (if 0 ≤ (ab (wI (a8_ - a10_))) ∧ (ab (wI (a8_ - a10_))) < 128 then (if 0 ≤ (ab (wI (a8_ - a10_))) ∧ (ab (wI (a8_ - a10_))) < 128 then (if 0 ≤ (ab (wI (a8_ - a10_))) ∧ (ab (wI (a8_ - a10_))) < 128 then Run (d + 1) 280 125 [.inr (.inr (.inl 97)), .inl x0, .inl x1, .inl x2, .inl x3, .inl x4, .inl x5, .inl x6, .inl (mx x7 ((up h9_ 116 (ab (wI (a8_ - a10_))).toNat (wI ((h9_ 116 (ab (wI (a8_ - a10_))).toNat) + 1))) 116 (ab (wI (a8_ - a10_))).toNat)), .inl (wI (x8 + 1)), .inl (ab (wI (a8_ - a10_)))] [] (up h9_ 116 (ab (wI (a8_ - a10_))).toNat (wI ((h9_ 116 (ab (wI (a8_ - a10_))).toNat) + 1))) else none) else none) else none))) else Run (d + 1) 280 125 [.inr (.inr (.inl 97)), .inl x0, .inl x1, .inl x2, .inl x3, .inl x4, .inl x5, .inl x6, .inl x7, .inl (wI (x8 + 1)), vU] [] h4_))) := by
  refine (R_iload zf280_125 rfl rfl).trans ?_
  refine (R_bipush zf280_127 zb_20 rfl).trans ?_
  refine (R_icmp_ge (t := 207) zf280_129 rfl rfl).trans ?_
  refine ite_congr rfl (fun c1_ => ?_) (fun c1_ => ?_)
  · refine (R_iload zf280_207 rfl rfl).trans ?_
    refine (R_iconst zf280_209 zw_m1 rfl).trans ?_
    refine (R_icmp_eq (t := 223) zf280_210 rfl rfl).trans ?_
    refine ite_congr rfl (fun c2_ => ?_) (fun c2_ => ?_)
    · refine (R_bipush zf280_223 zb_100 rfl).trans ?_
      refine (R_iload zf280_225 rfl rfl).trans ?_
      refine (R_imul zf280_227 rfl).trans ?_
      refine (R_iload zf280_228 rfl rfl).trans ?_
      refine (R_iadd zf280_230 rfl).trans ?_
      refine (R_istore (ls' := [.inr (.inr (.inl 97)), .inl x0, .inl x1, .inl x2, .inl (wI ((wI (100 * x5)) + x6)), .inl x4, .inl x5, .inl x6, .inl x7, .inl x8, vU]) zf280_231 (Nat.le_of_ble_eq_true rfl) rfl rfl).trans ?_
      refine (R_iload zf280_233 rfl rfl).trans ?_
      refine (R_istore (ls' := [.inr (.inr (.inl 97)), .inl x0, .inl x1, .inl x2, .inl (wI ((wI (100 * x5)) + x6)), .inl x7, .inl x5, .inl x6, .inl x7, .inl x8, vU]) zf280_235 (Nat.le_of_ble_eq_true rfl) rfl rfl).trans ?_
      refine (R_iinc (ls' := [.inr (.inr (.inl 97)), .inl x0, .inl x1, .inl x2, .inl (wI ((wI (100 * x5)) + x6)), .inl x7, .inl x5, .inl (wI (x6 + 1)), .inl x7, .inl x8, vU]) zf280_237 rfl rfl rfl).trans ?_
      refine (R_goto (t := 85) zf280_240 rfl).trans ?_
      rfl
    · refine (R_iload zf280_213 rfl rfl).trans ?_
      refine (R_iload zf280_215 rfl rfl).trans ?_
      refine (R_icmp_lt (t := 223) zf280_217 rfl rfl).trans ?_
      refine ite_congr rfl (fun c3_ => ?_) (fun c3_ => ?_)
      · refine (R_bipush zf280_223 zb_100 rfl).trans ?_
        refine (R_iload zf280_225 rfl rfl).trans ?_
        refine (R_imul zf280_227 rfl).trans ?_
        refine (R_iload zf280_228 rfl rfl).trans ?_
        refine (R_iadd zf280_230 rfl).trans ?_
        refine (R_istore (ls' := [.inr (.inr (.inl 97)), .inl x0, .inl x1, .inl x2, .inl (wI ((wI (100 * x5)) + x6)), .inl x4, .inl x5, .inl x6, .inl x7, .inl x8, vU]) zf280_231 (Nat.le_of_ble_eq_true rfl) rfl rfl).trans ?_
        refine (R_iload zf280_233 rfl rfl).trans ?_
        refine (R_istore (ls' := [.inr (.inr (.inl 97)), .inl x0, .inl x1, .inl x2, .inl (wI ((wI (100 * x5)) + x6)), .inl x7, .inl x5, .inl x6, .inl x7, .inl x8, vU]) zf280_235 (Nat.le_of_ble_eq_true rfl) rfl rfl).trans ?_
        refine (R_iinc (ls' := [.inr (.inr (.inl 97)), .inl x0, .inl x1, .inl x2, .inl (wI ((wI (100 * x5)) + x6)), .inl x7, .inl x5, .inl (wI (x6 + 1)), .inl x7, .inl x8, vU]) zf280_237 rfl rfl rfl).trans ?_
        refine (R_goto (t := 85) zf280_240 rfl).trans ?_
        rfl
      · refine (R_goto (t := 237) zf280_220 rfl).trans ?_
        refine (R_iinc (ls' := [.inr (.inr (.inl 97)), .inl x0, .inl x1, .inl x2, .inl x3, .inl x4, .inl x5, .inl (wI (x6 + 1)), .inl x7, .inl x8, vU]) zf280_237 rfl rfl rfl).trans ?_
        refine (R_goto (t := 85) zf280_240 rfl).trans ?_
        rfl
  · refine (R_iload_n zf280_132 rfl rfl).trans ?_
    refine (R_iload zf280_133 rfl rfl).trans ?_
    refine (R_callI zf280_135 zo_280 zsl_12_229 (by rw [zr_192]; rfl) zl_192 (Nat.le_of_ble_eq_true rfl) rfl rfl (Nat.le_of_ble_eq_true rfl) (Nat.le_of_ble_eq_true rfl) (es := [.inl x2, .inl x8]) rfl rfl).trans ?_
    refine congrArg (cI _) (funext fun a5_ => funext fun h4_ => ?_)
    refine (R_if_ne (t := 144) zf280_138 rfl rfl).trans ?_
    refine ite_congr rfl (fun c6_ => ?_) (fun c6_ => ?_)
    · refine (R_aload_n zf280_144 rfl zlt_97 rfl).trans ?_
      refine (R_iload_n zf280_145 rfl rfl).trans ?_
      refine (R_iload_n zf280_146 rfl rfl).trans ?_
      refine (R_iload zf280_147 rfl rfl).trans ?_
      refine (R_iload zf280_149 rfl rfl).trans ?_
      refine (R_iload zf280_151 rfl rfl).trans ?_
      refine (R_bipush zf280_153 zb_10 rfl).trans ?_
      refine (R_irem zf280_155 (by decide) rfl).trans ?_
      refine (R_iload zf280_156 rfl rfl).trans ?_
      refine (R_bipush zf280_158 zb_10 rfl).trans ?_
      refine (R_idiv zf280_160 (by decide) rfl).trans ?_
      refine (R_iconst zf280_161 zw_0 rfl).trans ?_
      refine (R_vcallI zf280_162 zo_280 zvl_12_329 (by rw [zr_232]; rfl) zl_232 (Nat.le_of_ble_eq_true rfl) rfl rfl (Nat.le_of_ble_eq_true rfl) (Nat.le_of_ble_eq_true rfl) (es := [.inr (.inr (.inl 97)), .inl x0, .inl x1, .inl x6, .inl x5, .inl (x8.tmod 10), .inl (wI (x8.tdiv 10)), .inl 0, vU]) rfl rfl zk1_97 zo_232).trans ?_
      refine congrArg (cI _) (funext fun a8_ => funext fun h7_ => ?_)
      refine (R_aload_n zf280_165 rfl zlt_97 rfl).trans ?_
      refine (R_iload_n zf280_166 rfl rfl).trans ?_
      refine (R_vcallI zf280_167 zo_280 zvl_12_326 (by rw [zr_234]; rfl) zl_234 (Nat.le_of_ble_eq_true rfl) rfl rfl (Nat.le_of_ble_eq_true rfl) (Nat.le_of_ble_eq_true rfl) (es := [.inr (.inr (.inl 97)), .inl x1]) rfl rfl zk1_97 zo_234).trans ?_
      refine congrArg (cI _) (funext fun a10_ => funext fun h9_ => ?_)
      refine (R_isub zf280_170 rfl).trans ?_
      refine (R_mabs zf280_171 zo_280 zsl_12_333 zml_12_333 zna_12_333 (Nat.le_of_ble_eq_true rfl) rfl).trans ?_
      refine (R_istore (ls' := [.inr (.inr (.inl 97)), .inl x0, .inl x1, .inl x2, .inl x3, .inl x4, .inl x5, .inl x6, .inl x7, .inl x8, .inl (ab (wI (a8_ - a10_)))]) zf280_174 (Nat.le_of_ble_eq_true rfl) rfl rfl).trans ?_
      refine (R_aload_n zf280_176 rfl zlt_97 rfl).trans ?_
      refine (R_getR zf280_177 zo_280 zfl_12_83 zk1_97 zft_12_45 zmr_97_45 rfl).trans ?_
      refine (R_iload zf280_180 rfl rfl).trans ?_
      refine (R_dup2 zf280_182 rfl rfl rfl).trans ?_
      refine (R_iald zf280_183 zk_116 rfl).trans ?_
      refine ite_congr rfl (fun c11_ => ?_) (fun _ => rfl)
      refine (R_iconst zf280_184 zw_1 rfl).trans ?_
      refine (R_iadd zf280_185 rfl).trans ?_
      refine (R_iast zf280_186 zk_116 rfl).trans ?_
      refine ite_congr rfl (fun c12_ => ?_) (fun _ => rfl)
      refine (R_iload zf280_187 rfl rfl).trans ?_
      refine (R_aload_n zf280_189 rfl zlt_97 rfl).trans ?_
      refine (R_getR zf280_190 zo_280 zfl_12_83 zk1_97 zft_12_45 zmr_97_45 rfl).trans ?_
      refine (R_iload zf280_193 rfl rfl).trans ?_
      refine (R_iald zf280_195 zk_116 rfl).trans ?_
      refine ite_congr rfl (fun c13_ => ?_) (fun _ => rfl)
      refine (R_mmax zf280_196 zo_280 zsl_12_320 zml_12_320 zna_12_320 (Nat.le_of_ble_eq_true rfl) rfl).trans ?_
      refine (R_istore (ls' := [.inr (.inr (.inl 97)), .inl x0, .inl x1, .inl x2, .inl x3, .inl x4, .inl x5, .inl x6, .inl (mx x7 ((up h9_ 116 (ab (wI (a8_ - a10_))).toNat (wI ((h9_ 116 (ab (wI (a8_ - a10_))).toNat) + 1))) 116 (ab (wI (a8_ - a10_))).toNat)), .inl x8, .inl (ab (wI (a8_ - a10_)))]) zf280_199 (Nat.le_of_ble_eq_true rfl) rfl rfl).trans ?_
      refine (R_iinc (ls' := [.inr (.inr (.inl 97)), .inl x0, .inl x1, .inl x2, .inl x3, .inl x4, .inl x5, .inl x6, .inl (mx x7 ((up h9_ 116 (ab (wI (a8_ - a10_))).toNat (wI ((h9_ 116 (ab (wI (a8_ - a10_))).toNat) + 1))) 116 (ab (wI (a8_ - a10_))).toNat)), .inl (wI (x8 + 1)), .inl (ab (wI (a8_ - a10_)))]) zf280_201 rfl rfl rfl).trans ?_
      refine (R_goto (t := 125) zf280_204 rfl).trans ?_
      rfl
    · refine (R_goto (t := 201) zf280_141 rfl).trans ?_
      refine (R_iinc (ls' := [.inr (.inr (.inl 97)), .inl x0, .inl x1, .inl x2, .inl x3, .inl x4, .inl x5, .inl x6, .inl x7, .inl (wI (x8 + 1)), vU]) zf280_201 rfl rfl rfl).trans ?_
      refine (R_goto (t := 125) zf280_204 rfl).trans ?_
      rfl
-- CannonPostModel.netOf(II)I at 19
theorem q282_19_1 (d : Nat) (x0 : Int) (x1 : Int) (x2 : Int) (x3 : Int) (x4 : Int) (x5 : Int) (h : MH) : Run (d + 1) 282 19 [.inr (.inr (.inl 97)), .inl x0, .inl x1, .inl x2, .inl x3, .inl x4, .inl x5] [] h = (if (h 97 26) ≤ x4 then Run (d + 1) 282 7 [.inr (.inr (.inl 97)), .inl x0, .inl x1, .inl x2, .inl (wI (x3 + 1)), .inl x4, .inl x5] [] h else Run (d + 1) 282 31 [.inr (.inr (.inl 97)), .inl x0, .inl x1, .inl x2, .inl x3, .inl x4, .inl 0] [] h) := by
  refine (R_iload zf282_19 rfl rfl).trans ?_
  refine (R_aload_n zf282_21 rfl zlt_97 rfl).trans ?_
  refine (R_getI zf282_22 zo_282 zfl_12_294 zk1_97 zft_12_26 rfl).trans ?_
  refine (R_icmp_ge (t := 85) zf282_25 rfl rfl).trans ?_
  refine ite_congr rfl (fun c1_ => ?_) (fun c1_ => ?_)
  · refine (R_iinc (ls' := [.inr (.inr (.inl 97)), .inl x0, .inl x1, .inl x2, .inl (wI (x3 + 1)), .inl x4, .inl x5]) zf282_85 rfl rfl rfl).trans ?_
    refine (R_goto (t := 7) zf282_88 rfl).trans ?_
    rfl
  · refine (R_iconst zf282_28 zw_0 rfl).trans ?_
    refine (R_istore (ls' := [.inr (.inr (.inl 97)), .inl x0, .inl x1, .inl x2, .inl x3, .inl x4, .inl 0]) zf282_29 (Nat.le_of_ble_eq_true rfl) rfl rfl).trans ?_
    rfl
-- CannonPostModel.hasAim(II)Z at 0
theorem q283_0 (d : Nat) (x0 : Int) (x1 : Int) (h : MH) : Run (d + 1) 283 0 [.inr (.inr (.inl 97)), .inl x0, .inl x1, vU] [] h = Run (d + 1) 283 2 [.inr (.inr (.inl 97)), .inl x0, .inl x1, .inl 0] [] h := by
  refine (R_iconst zf283_0 zw_0 rfl).trans ?_
  refine (R_istore_n (ls' := [.inr (.inr (.inl 97)), .inl x0, .inl x1, .inl 0]) zf283_1 (Nat.le_of_ble_eq_true rfl) rfl rfl).trans ?_
  rfl
-- CannonPostModel.weightFor(I)J at 31
theorem q292_31 (d : Nat) (x0 : Int) (x1 : Int) (x2 : Int) (y3 : Int) (h : MH) : Run d 292 31 [.inr (.inr (.inl 97)), .inl x0, .inr (.inl x1), vU, .inl x2, vU] [.inl y3] h = (if 0 ≤ x2 ∧ x2 < 12 then (if (h 118 x2.toNat) = 0 then Run d 292 5 [.inr (.inr (.inl 97)), .inl x0, .inr (.inl (wL (x1 * (wI (10 - y3))))), vU, .inl (wI (x2 + 1)), .inl y3] [] h else Run d 292 5 [.inr (.inr (.inl 97)), .inl x0, .inr (.inl (wL (x1 * y3))), vU, .inl (wI (x2 + 1)), .inl y3] [] h) else none) := by
  refine (R_istore (ls' := [.inr (.inr (.inl 97)), .inl x0, .inr (.inl x1), vU, .inl x2, .inl y3]) zf292_31 (Nat.le_of_ble_eq_true rfl) rfl rfl).trans ?_
  refine (R_lload_n zf292_33 rfl rfl).trans ?_
  refine (R_aload_n zf292_34 rfl zlt_97 rfl).trans ?_
  refine (R_getR zf292_35 zo_292 zfl_12_89 zk1_97 zft_12_48 zmr_97_48 rfl).trans ?_
  refine (R_iload zf292_38 rfl rfl).trans ?_
  refine (R_zald zf292_40 zk_118 rfl).trans ?_
  refine ite_congr rfl (fun c1_ => ?_) (fun _ => rfl)
  refine (R_if_eq (t := 50) zf292_41 rfl rfl).trans ?_
  refine ite_congr rfl (fun c2_ => ?_) (fun c2_ => ?_)
  · refine (R_bipush zf292_50 zb_10 rfl).trans ?_
    refine (R_iload zf292_52 rfl rfl).trans ?_
    refine (R_isub zf292_54 rfl).trans ?_
    refine (R_i2l zf292_55 rfl).trans ?_
    refine (R_lmul zf292_56 rfl).trans ?_
    refine (R_lstore_n (ls' := [.inr (.inr (.inl 97)), .inl x0, .inr (.inl (wL (x1 * (wI (10 - y3))))), vU, .inl x2, .inl y3]) zf292_57 (Nat.le_of_ble_eq_true rfl) rfl rfl).trans ?_
    refine (R_iinc (ls' := [.inr (.inr (.inl 97)), .inl x0, .inr (.inl (wL (x1 * (wI (10 - y3))))), vU, .inl (wI (x2 + 1)), .inl y3]) zf292_58 rfl rfl rfl).trans ?_
    refine (R_goto (t := 5) zf292_61 rfl).trans ?_
    rfl
  · refine (R_iload zf292_44 rfl rfl).trans ?_
    refine (R_i2l zf292_46 rfl).trans ?_
    refine (R_goto (t := 56) zf292_47 rfl).trans ?_
    refine (R_lmul zf292_56 rfl).trans ?_
    refine (R_lstore_n (ls' := [.inr (.inr (.inl 97)), .inl x0, .inr (.inl (wL (x1 * y3))), vU, .inl x2, .inl y3]) zf292_57 (Nat.le_of_ble_eq_true rfl) rfl rfl).trans ?_
    refine (R_iinc (ls' := [.inr (.inr (.inl 97)), .inl x0, .inr (.inl (wL (x1 * y3))), vU, .inl (wI (x2 + 1)), .inl y3]) zf292_58 rfl rfl rfl).trans ?_
    refine (R_goto (t := 5) zf292_61 rfl).trans ?_
    rfl
-- CannonPost$LeagueReader.readClause()Z at 102
theorem q7_102 (d : Nat) (h : MH) : Run (d + 1) 7 102 [.inr (.inr (.inl 3)), vU] [] h = (if 5 ≤ (h 4 4) then some (some (.inl 0), h) else (cI (Run d 8 0 [.inr (.inr (.inl 1)), .inl 99] [] h) fun a3_ h2_ => (if a3_ = 0 then some (some (.inl 0), h2_) else (cI (Run d 10 0 [.inr (.inr (.inl 3)), .inr (.inr (.inl 21)), .inl (wI ((h2_ 4 4) * 3)), .inl 7, .inl 10, vU, vU, vU, vU] [] (up h2_ 4 4 (wI ((h2_ 4 4) + 1)))) fun a6_ h5_ => (if a6_ = 0 ∨ a6_ = 1 then some (some (.inl a6_), h5_) else none))))) := by
  refine (R_aload_n zf7_102 rfl zlt_3 rfl).trans ?_
  refine (R_getR zf7_103 zo_7 zfl_6_12 zk1_3 zft_6_0 zmr_3_0 rfl).trans ?_
  refine (R_getI zf7_106 zo_7 zfl_6_39 zk1_4 zft_5_4 rfl).trans ?_
  refine (R_iconst zf7_109 zw_5 rfl).trans ?_
  refine (R_icmp_ge (t := 165) zf7_110 rfl rfl).trans ?_
  refine ite_congr rfl (fun c1_ => ?_) (fun c1_ => ?_)
  · refine (R_iconst zf7_165 zw_0 rfl).trans ?_
    exact R_ireturn zf7_166 (by rw [zr_7]; rfl)
  · refine (R_aload_n zf7_113 rfl zlt_3 rfl).trans ?_
    refine (R_getR zf7_114 zo_7 zfl_6_18 zk1_3 zft_6_1 zmr_3_1 rfl).trans ?_
    refine (R_bipush zf7_117 zb_99 rfl).trans ?_
    refine (R_vcallI zf7_119 zo_7 zvl_6_65 (by rw [zr_8]; rfl) zl_8 (Nat.le_of_ble_eq_true rfl) rfl rfl (Nat.le_of_ble_eq_true rfl) (Nat.le_of_ble_eq_true rfl) (es := [.inr (.inr (.inl 1)), .inl 99]) rfl rfl zk1_1 zo_8).trans ?_
    refine congrArg (cI _) (funext fun a3_ => funext fun h2_ => ?_)
    refine (R_if_eq (t := 165) zf7_122 rfl rfl).trans ?_
    refine ite_congr rfl (fun c4_ => ?_) (fun c4_ => ?_)
    · refine (R_iconst zf7_165 zw_0 rfl).trans ?_
      exact R_ireturn zf7_166 (by rw [zr_7]; rfl)
    · refine (R_aload_n zf7_125 rfl zlt_3 rfl).trans ?_
      refine (R_getR zf7_126 zo_7 zfl_6_12 zk1_3 zft_6_0 zmr_3_0 rfl).trans ?_
      refine (R_getI zf7_129 zo_7 zfl_6_39 zk1_4 zft_5_4 rfl).trans ?_
      refine (R_iconst zf7_132 zw_3 rfl).trans ?_
      refine (R_imul zf7_133 rfl).trans ?_
      refine (R_istore_n (ls' := [.inr (.inr (.inl 3)), .inl (wI ((h2_ 4 4) * 3))]) zf7_134 (Nat.le_of_ble_eq_true rfl) rfl rfl).trans ?_
      refine (R_aload_n zf7_135 rfl zlt_3 rfl).trans ?_
      refine (R_getR zf7_136 zo_7 zfl_6_12 zk1_3 zft_6_0 zmr_3_0 rfl).trans ?_
      refine (R_dup zf7_139 rfl rfl).trans ?_
      refine (R_getI zf7_140 zo_7 zfl_6_39 zk1_4 zft_5_4 rfl).trans ?_
      refine (R_iconst zf7_143 zw_1 rfl).trans ?_
      refine (R_iadd zf7_144 rfl).trans ?_
      refine (R_putI zf7_145 zo_7 zfl_6_39 zk1_4 zft_5_4 rfl).trans ?_
      refine (R_aload_n zf7_148 rfl zlt_3 rfl).trans ?_
      refine (R_aload_n zf7_149 rfl zlt_3 rfl).trans ?_
      refine (R_getR zf7_150 zo_7 zfl_6_12 zk1_3 zft_6_0 zmr_3_0 rfl).trans ?_
      refine (R_getR zf7_153 zo_7 zfl_6_76 zk1_4 zft_5_2 zmr_4_2 rfl).trans ?_
      refine (R_iload_n zf7_156 rfl rfl).trans ?_
      refine (R_bipush zf7_157 zb_7 rfl).trans ?_
      refine (R_bipush zf7_159 zb_10 rfl).trans ?_
      refine (R_vcallI zf7_161 zo_7 zvl_6_69 (by rw [zr_10]; rfl) zl_10 (Nat.le_of_ble_eq_true rfl) rfl rfl (Nat.le_of_ble_eq_true rfl) (Nat.le_of_ble_eq_true rfl) (es := [.inr (.inr (.inl 3)), .inr (.inr (.inl 21)), .inl (wI ((h2_ 4 4) * 3)), .inl 7, .inl 10, vU, vU, vU, vU]) rfl rfl zk1_3 zo_10).trans ?_
      refine congrArg (cI _) (funext fun a6_ => funext fun h5_ => ?_)
      exact R_ireturn_z zf7_164 zr_7
-- CannonPost$LeagueReader.readItems([IIII)Z at 0
theorem q10_0_1 (d : Nat) (x0 : Int) (x1 : Int) (x2 : Int) (h : MH) : Run (d + 1) 10 0 [.inr (.inr (.inl 3)), .inr (.inr (.inl 20)), .inl x0, .inl x1, .inl x2, vU, vU, vU, vU] [] h = (if (0 : Int) ≤ (wI (x2 - x1)) ∧ (0 : Int) ≤ x0 ∧ (0 : Int) ≤ x1 ∧ (x0 + (wI (x2 - x1)) : Int) ≤ 24 ∧ (x1 + (wI (x2 - x1)) : Int) ≤ 10 then Run (d + 1) 10 19 [.inr (.inr (.inl 3)), .inr (.inr (.inl 20)), .inl x0, .inl x1, .inl x2, .inl 0, .inl 0, vU, vU] [] (cpy h (ro 121) 20 x1.toNat x0.toNat (wI (x2 - x1)).toNat) else none) := by
  refine (R_getsR zf10_0 zo_10 zgl_6_42 rfl).trans ?_
  refine (R_iload_n zf10_3 rfl rfl).trans ?_
  refine (R_aload_n zf10_4 rfl zlt_20 rfl).trans ?_
  refine (R_iload_n zf10_5 rfl rfl).trans ?_
  refine (R_iload zf10_6 rfl rfl).trans ?_
  refine (R_iload_n zf10_8 rfl rfl).trans ?_
  refine (R_isub zf10_9 rfl).trans ?_
  refine (R_acpyR zf10_10 zo_10 zsl_6_49 zal_6_49 zk_121 zk_20 (Nat.le_of_ble_eq_true rfl) rfl).trans ?_
  refine ite_congr rfl (fun c1_ => ?_) (fun _ => rfl)
  refine (R_iconst zf10_13 zw_0 rfl).trans ?_
  refine (R_istore (ls' := [.inr (.inr (.inl 3)), .inr (.inr (.inl 20)), .inl x0, .inl x1, .inl x2, .inl 0, vU, vU, vU]) zf10_14 (Nat.le_of_ble_eq_true rfl) rfl rfl).trans ?_
  refine (R_iconst zf10_16 zw_0 rfl).trans ?_
  refine (R_istore (ls' := [.inr (.inr (.inl 3)), .inr (.inr (.inl 20)), .inl x0, .inl x1, .inl x2, .inl 0, .inl 0, vU, vU]) zf10_17 (Nat.le_of_ble_eq_true rfl) rfl rfl).trans ?_
  rfl
-- CannonPost$LeagueReader.readItems([IIII)Z at 19
theorem q10_19 (d : Nat) (x0 : Int) (x1 : Int) (x2 : Int) (x3 : Int) (x4 : Int) (h : MH) : Run (d + 1) 10 19 [.inr (.inr (.inl 3)), .inr (.inr (.inl 19)), .inl x0, .inl x1, .inl x2, .inl x3, .inl x4, vU, vU] [] h = (if (wI (x2 - x1)) < x4 then some (some (.inl 0), h) else (cI (Run d 9 0 [.inr (.inr (.inl 1))] [] h) fun a3_ h2_ => (cI (Run d 11 0 [.inl a3_, .inl x1, .inl x2, vU] [] h2_) fun a5_ h4_ => (if ¬ a5_ = (-1) then (if (iAnd (iShr x3 a5_) 1) = 0 then (cI (Run d 9 0 [.inr (.inr (.inl 1))] [] (up h4_ 1 2 (wI ((h4_ 1 2) + 1)))) fun a9_ h8_ => (cI (Run d 17 0 [.inr (.inr (.inl 1)), .inl 2, vU, vU] [] h8_) fun a11_ h10_ => (if ¬ a11_ = (-1) then (if 0 ≤ a5_ ∧ a5_ < 10 then (if a11_ < (ro 122 a5_.toNat) then some (some (.inl 0), (up h10_ 1 2 (wI ((h10_ 1 2) - 1)))) else (if 0 ≤ a5_ ∧ a5_ < 10 then (if a11_ ≤ (ro 123 a5_.toNat) then (if 0 ≤ (wI ((wI (x0 + a5_)) - x1)) ∧ (wI ((wI (x0 + a5_)) - x1)) < 4 then Run (d + 1) 10 19 [.inr (.inr (.inl 3)), .inr (.inr (.inl 19)), .inl x0, .inl x1, .inl x2, .inl (iOr x3 (iShl 1 a5_)), .inl (wI (x4 + 1)), .inl a5_, .inl a11_] [] (up h10_ 19 (wI ((wI (x0 + a5_)) - x1)).toNat a11_) else none) else some (some (.inl 0), (up h10_ 1 2 (wI ((h10_ 1 2) - 1))))) else none)) else none) else some (some (.inl 0), h10_)))) else some (some (.inl 0), h4_)) else some (some (.inl 1), h4_))))) := by
  refine (R_iload zf10_19 rfl rfl).trans ?_
  refine (R_iload zf10_21 rfl rfl).trans ?_
  refine (R_iload_n zf10_23 rfl rfl).trans ?_
  refine (R_isub zf10_24 rfl).trans ?_
  refine (R_icmp_gt (t := 164) zf10_25 rfl rfl).trans ?_
  refine ite_congr rfl (fun c1_ => ?_) (fun c1_ => ?_)
  · refine (R_iconst zf10_164 zw_0 rfl).trans ?_
    exact R_ireturn zf10_165 (by rw [zr_10]; rfl)
  · refine (R_aload_n zf10_28 rfl zlt_3 rfl).trans ?_
    refine (R_getR zf10_29 zo_10 zfl_6_18 zk1_3 zft_6_1 zmr_3_1 rfl).trans ?_
    refine (R_vcallI zf10_32 zo_10 zvl_6_58 (by rw [zr_9]; rfl) zl_9 (Nat.le_of_ble_eq_true rfl) rfl rfl (Nat.le_of_ble_eq_true rfl) (Nat.le_of_ble_eq_true rfl) (es := [.inr (.inr (.inl 1))]) rfl rfl zk1_1 zo_9).trans ?_
    refine congrArg (cI _) (funext fun a3_ => funext fun h2_ => ?_)
    refine (R_iload_n zf10_35 rfl rfl).trans ?_
    refine (R_iload zf10_36 rfl rfl).trans ?_
    refine (R_callI zf10_38 zo_10 zsl_6_79 (by rw [zr_11]; rfl) zl_11 (Nat.le_of_ble_eq_true rfl) rfl rfl (Nat.le_of_ble_eq_true rfl) (Nat.le_of_ble_eq_true rfl) (es := [.inl a3_, .inl x1, .inl x2, vU]) rfl rfl).trans ?_
    refine congrArg (cI _) (funext fun a5_ => funext fun h4_ => ?_)
    refine (R_istore (ls' := [.inr (.inr (.inl 3)), .inr (.inr (.inl 19)), .inl x0, .inl x1, .inl x2, .inl x3, .inl x4, .inl a5_, vU]) zf10_41 (Nat.le_of_ble_eq_true rfl) rfl rfl).trans ?_
    refine (R_iload zf10_43 rfl rfl).trans ?_
    refine (R_iconst zf10_45 zw_m1 rfl).trans ?_
    refine (R_icmp_ne (t := 51) zf10_46 rfl rfl).trans ?_
    refine ite_congr rfl (fun c6_ => ?_) (fun c6_ => ?_)
    · refine (R_iload zf10_51 rfl rfl).trans ?_
      refine (R_iload zf10_53 rfl rfl).trans ?_
      refine (R_ishr zf10_55 rfl).trans ?_
      refine (R_iconst zf10_56 zw_1 rfl).trans ?_
      refine (R_iand zf10_57 rfl).trans ?_
      refine (R_if_eq (t := 63) zf10_58 rfl rfl).trans ?_
      refine ite_congr rfl (fun c7_ => ?_) (fun c7_ => ?_)
      · refine (R_iload zf10_63 rfl rfl).trans ?_
        refine (R_iconst zf10_65 zw_1 rfl).trans ?_
        refine (R_iload zf10_66 rfl rfl).trans ?_
        refine (R_ishl zf10_68 rfl).trans ?_
        refine (R_ior zf10_69 rfl).trans ?_
        refine (R_istore (ls' := [.inr (.inr (.inl 3)), .inr (.inr (.inl 19)), .inl x0, .inl x1, .inl x2, .inl (iOr x3 (iShl 1 a5_)), .inl x4, .inl a5_, vU]) zf10_70 (Nat.le_of_ble_eq_true rfl) rfl rfl).trans ?_
        refine (R_aload_n zf10_72 rfl zlt_3 rfl).trans ?_
        refine (R_getR zf10_73 zo_10 zfl_6_18 zk1_3 zft_6_1 zmr_3_1 rfl).trans ?_
        refine (R_dup zf10_76 rfl rfl).trans ?_
        refine (R_getI zf10_77 zo_10 zfl_6_22 zk1_1 zft_10_2 rfl).trans ?_
        refine (R_iconst zf10_80 zw_1 rfl).trans ?_
        refine (R_iadd zf10_81 rfl).trans ?_
        refine (R_putI zf10_82 zo_10 zfl_6_22 zk1_1 zft_10_2 rfl).trans ?_
        refine (R_aload_n zf10_85 rfl zlt_3 rfl).trans ?_
        refine (R_getR zf10_86 zo_10 zfl_6_18 zk1_3 zft_6_1 zmr_3_1 rfl).trans ?_
        refine (R_vcallI zf10_89 zo_10 zvl_6_58 (by rw [zr_9]; rfl) zl_9 (Nat.le_of_ble_eq_true rfl) rfl rfl (Nat.le_of_ble_eq_true rfl) (Nat.le_of_ble_eq_true rfl) (es := [.inr (.inr (.inl 1))]) rfl rfl zk1_1 zo_9).trans ?_
        refine congrArg (cI _) (funext fun a9_ => funext fun h8_ => ?_)
        refine (R_pop zf10_92 rfl rfl).trans ?_
        refine (R_aload_n zf10_93 rfl zlt_3 rfl).trans ?_
        refine (R_getR zf10_94 zo_10 zfl_6_18 zk1_3 zft_6_1 zmr_3_1 rfl).trans ?_
        refine (R_iconst zf10_97 zw_2 rfl).trans ?_
        refine (R_vcallI zf10_98 zo_10 zvl_6_83 (by rw [zr_17]; rfl) zl_17 (Nat.le_of_ble_eq_true rfl) rfl rfl (Nat.le_of_ble_eq_true rfl) (Nat.le_of_ble_eq_true rfl) (es := [.inr (.inr (.inl 1)), .inl 2, vU, vU]) rfl rfl zk1_1 zo_17).trans ?_
        refine congrArg (cI _) (funext fun a11_ => funext fun h10_ => ?_)
        refine (R_istore (ls' := [.inr (.inr (.inl 3)), .inr (.inr (.inl 19)), .inl x0, .inl x1, .inl x2, .inl (iOr x3 (iShl 1 a5_)), .inl x4, .inl a5_, .inl a11_]) zf10_101 (Nat.le_of_ble_eq_true rfl) rfl rfl).trans ?_
        refine (R_iload zf10_103 rfl rfl).trans ?_
        refine (R_iconst zf10_105 zw_m1 rfl).trans ?_
        refine (R_icmp_ne (t := 111) zf10_106 rfl rfl).trans ?_
        refine ite_congr rfl (fun c12_ => ?_) (fun c12_ => ?_)
        · refine (R_iload zf10_111 rfl rfl).trans ?_
          refine (R_getsR zf10_113 zo_10 zgl_6_87 rfl).trans ?_
          refine (R_iload zf10_116 rfl rfl).trans ?_
          refine (R_iald110 zf10_118 zk_122 rfl).trans ?_
          refine ite_congr rfl (fun c13_ => ?_) (fun _ => rfl)
          refine (R_icmp_lt (t := 133) zf10_119 rfl rfl).trans ?_
          refine ite_congr rfl (fun c14_ => ?_) (fun c14_ => ?_)
          · refine (R_aload_n zf10_133 rfl zlt_3 rfl).trans ?_
            refine (R_getR zf10_134 zo_10 zfl_6_18 zk1_3 zft_6_1 zmr_3_1 rfl).trans ?_
            refine (R_dup zf10_137 rfl rfl).trans ?_
            refine (R_getI zf10_138 zo_10 zfl_6_22 zk1_1 zft_10_2 rfl).trans ?_
            refine (R_iconst zf10_141 zw_1 rfl).trans ?_
            refine (R_isub zf10_142 rfl).trans ?_
            refine (R_putI zf10_143 zo_10 zfl_6_22 zk1_1 zft_10_2 rfl).trans ?_
            refine (R_iconst zf10_146 zw_0 rfl).trans ?_
            exact R_ireturn zf10_147 (by rw [zr_10]; rfl)
          · refine (R_iload zf10_122 rfl rfl).trans ?_
            refine (R_getsR zf10_124 zo_10 zgl_6_90 rfl).trans ?_
            refine (R_iload zf10_127 rfl rfl).trans ?_
            refine (R_iald110 zf10_129 zk_123 rfl).trans ?_
            refine ite_congr rfl (fun c15_ => ?_) (fun _ => rfl)
            refine (R_icmp_le (t := 148) zf10_130 rfl rfl).trans ?_
            refine ite_congr rfl (fun c16_ => ?_) (fun c16_ => ?_)
            · refine (R_aload_n zf10_148 rfl zlt_19 rfl).trans ?_
              refine (R_iload_n zf10_149 rfl rfl).trans ?_
              refine (R_iload zf10_150 rfl rfl).trans ?_
              refine (R_iadd zf10_152 rfl).trans ?_
              refine (R_iload_n zf10_153 rfl rfl).trans ?_
              refine (R_isub zf10_154 rfl).trans ?_
              refine (R_iload zf10_155 rfl rfl).trans ?_
              refine (R_iast zf10_157 zk_19 rfl).trans ?_
              refine ite_congr rfl (fun c17_ => ?_) (fun _ => rfl)
              refine (R_iinc (ls' := [.inr (.inr (.inl 3)), .inr (.inr (.inl 19)), .inl x0, .inl x1, .inl x2, .inl (iOr x3 (iShl 1 a5_)), .inl (wI (x4 + 1)), .inl a5_, .inl a11_]) zf10_158 rfl rfl rfl).trans ?_
              refine (R_goto (t := 19) zf10_161 rfl).trans ?_
              rfl
            · refine (R_aload_n zf10_133 rfl zlt_3 rfl).trans ?_
              refine (R_getR zf10_134 zo_10 zfl_6_18 zk1_3 zft_6_1 zmr_3_1 rfl).trans ?_
              refine (R_dup zf10_137 rfl rfl).trans ?_
              refine (R_getI zf10_138 zo_10 zfl_6_22 zk1_1 zft_10_2 rfl).trans ?_
              refine (R_iconst zf10_141 zw_1 rfl).trans ?_
              refine (R_isub zf10_142 rfl).trans ?_
              refine (R_putI zf10_143 zo_10 zfl_6_22 zk1_1 zft_10_2 rfl).trans ?_
              refine (R_iconst zf10_146 zw_0 rfl).trans ?_
              exact R_ireturn zf10_147 (by rw [zr_10]; rfl)
        · refine (R_iconst zf10_109 zw_0 rfl).trans ?_
          exact R_ireturn zf10_110 (by rw [zr_10]; rfl)
      · refine (R_iconst zf10_61 zw_0 rfl).trans ?_
        exact R_ireturn zf10_62 (by rw [zr_10]; rfl)
    · refine (R_iconst zf10_49 zw_1 rfl).trans ?_
      exact R_ireturn zf10_50 (by rw [zr_10]; rfl)
-- CannonPost$League.isWhole()Z at 64
theorem q18_64 (d : Nat) (x0 : Int) (h : MH) : Run (d + 1) 18 64 [.inr (.inr (.inl 4)), .inl x0, vU] [] h = (if (h 4 4) ≤ x0 then some (some (.inl 1), h) else (cI (Run d 20 0 [.inr (.inr (.inl 4)), .inl x0] [] h) fun a3_ h2_ => (cI (Run d 21 0 [.inr (.inr (.inl 4)), .inl a3_] [] h2_) fun a5_ h4_ => (if ¬ a5_ = 0 then Run (d + 1) 18 64 [.inr (.inr (.inl 4)), .inl (wI (x0 + 1)), vU] [] h4_ else some (some (.inl 0), h4_))))) := by
  refine (R_iload_n zf18_64 rfl rfl).trans ?_
  refine (R_aload_n zf18_65 rfl zlt_4 rfl).trans ?_
  refine (R_getI zf18_66 zo_18 zfl_5_31 zk1_4 zft_5_4 rfl).trans ?_
  refine (R_icmp_ge (t := 92) zf18_69 rfl rfl).trans ?_
  refine ite_congr rfl (fun c1_ => ?_) (fun c1_ => ?_)
  · refine (R_iconst zf18_92 zw_1 rfl).trans ?_
    exact R_ireturn zf18_93 (by rw [zr_18]; rfl)
  · refine (R_aload_n zf18_72 rfl zlt_4 rfl).trans ?_
    refine (R_aload_n zf18_73 rfl zlt_4 rfl).trans ?_
    refine (R_iload_n zf18_74 rfl rfl).trans ?_
    refine (R_vcallI zf18_75 zo_18 zvl_5_38 (by rw [zr_20]; rfl) zl_20 (Nat.le_of_ble_eq_true rfl) rfl rfl (Nat.le_of_ble_eq_true rfl) (Nat.le_of_ble_eq_true rfl) (es := [.inr (.inr (.inl 4)), .inl x0]) rfl rfl zk1_4 zo_20).trans ?_
    refine congrArg (cI _) (funext fun a3_ => funext fun h2_ => ?_)
    refine (R_vcallI zf18_78 zo_18 zvl_5_41 (by rw [zr_21]; rfl) zl_21 (Nat.le_of_ble_eq_true rfl) rfl rfl (Nat.le_of_ble_eq_true rfl) (Nat.le_of_ble_eq_true rfl) (es := [.inr (.inr (.inl 4)), .inl a3_]) rfl rfl zk1_4 zo_21).trans ?_
    refine congrArg (cI _) (funext fun a5_ => funext fun h4_ => ?_)
    refine (R_if_ne (t := 86) zf18_81 rfl rfl).trans ?_
    refine ite_congr rfl (fun c6_ => ?_) (fun c6_ => ?_)
    · refine (R_iinc (ls' := [.inr (.inr (.inl 4)), .inl (wI (x0 + 1)), vU]) zf18_86 rfl rfl rfl).trans ?_
      refine (R_goto (t := 64) zf18_89 rfl).trans ?_
      rfl
    · refine (R_iconst zf18_84 zw_0 rfl).trans ?_
      exact R_ireturn zf18_85 (by rw [zr_18]; rfl)
-- CannonPost$League.isWhole()Z at 30
theorem q18_30 (d : Nat) (x0 : Int) (x1 : Int) (h : MH) : Run (d + 1) 18 30 [.inr (.inr (.inl 4)), .inl x0, .inl x1] [] h = (if x0 ≤ x1 then Run (d + 1) 18 20 [.inr (.inr (.inl 4)), .inl (wI (x0 + 1)), .inl x1] [] h else (cI (Run d 19 0 [.inr (.inr (.inl 4)), .inl x0] [] h) fun a3_ h2_ => (cI (Run d 19 0 [.inr (.inr (.inl 4)), .inl x1] [] h2_) fun a5_ h4_ => (if ¬ a3_ = a5_ then Run (d + 1) 18 30 [.inr (.inr (.inl 4)), .inl x0, .inl (wI (x1 + 1))] [] h4_ else some (some (.inl 0), h4_))))) := by
  refine (R_iload_n zf18_30 rfl rfl).trans ?_
  refine (R_iload_n zf18_31 rfl rfl).trans ?_
  refine (R_icmp_ge (t := 56) zf18_32 rfl rfl).trans ?_
  refine ite_congr rfl (fun c1_ => ?_) (fun c1_ => ?_)
  · refine (R_iinc (ls' := [.inr (.inr (.inl 4)), .inl (wI (x0 + 1)), .inl x1]) zf18_56 rfl rfl rfl).trans ?_
    refine (R_goto (t := 20) zf18_59 rfl).trans ?_
    rfl
  · refine (R_aload_n zf18_35 rfl zlt_4 rfl).trans ?_
    refine (R_iload_n zf18_36 rfl rfl).trans ?_
    refine (R_vcallI zf18_37 zo_18 zvl_5_34 (by rw [zr_19]; rfl) zl_19 (Nat.le_of_ble_eq_true rfl) rfl rfl (Nat.le_of_ble_eq_true rfl) (Nat.le_of_ble_eq_true rfl) (es := [.inr (.inr (.inl 4)), .inl x0]) rfl rfl zk1_4 zo_19).trans ?_
    refine congrArg (cI _) (funext fun a3_ => funext fun h2_ => ?_)
    refine (R_aload_n zf18_40 rfl zlt_4 rfl).trans ?_
    refine (R_iload_n zf18_41 rfl rfl).trans ?_
    refine (R_vcallI zf18_42 zo_18 zvl_5_34 (by rw [zr_19]; rfl) zl_19 (Nat.le_of_ble_eq_true rfl) rfl rfl (Nat.le_of_ble_eq_true rfl) (Nat.le_of_ble_eq_true rfl) (es := [.inr (.inr (.inl 4)), .inl x1]) rfl rfl zk1_4 zo_19).trans ?_
    refine congrArg (cI _) (funext fun a5_ => funext fun h4_ => ?_)
    refine (R_icmp_ne (t := 50) zf18_45 rfl rfl).trans ?_
    refine ite_congr rfl (fun c6_ => ?_) (fun c6_ => ?_)
    · refine (R_iinc (ls' := [.inr (.inr (.inl 4)), .inl x0, .inl (wI (x1 + 1))]) zf18_50 rfl rfl rfl).trans ?_
      refine (R_goto (t := 30) zf18_53 rfl).trans ?_
      rfl
    · refine (R_iconst zf18_48 zw_0 rfl).trans ?_
      exact R_ireturn zf18_49 (by rw [zr_18]; rfl)
-- CannonPost$LawReader.readCondition(IZ)Z at 0
theorem q36_0 (d : Nat) (x0 : Int) (x1 : Int) (h : MH) : Run (d + 1) 36 0 [.inr (.inr (.inl 5)), .inl x0, .inl x1, vU, vU, vU] [] h = (cI (Run d 37 0 [.inr (.inr (.inl 5)), .inl x0, .inl x1, vU, vU] [] h) fun a2_ h1_ => (if ¬ a2_ = 0 then Run (d + 1) 36 16 [.inr (.inr (.inl 5)), .inl x0, .inl x1, .inl 0, .inl 0, vU] [] h1_ else some (some (.inl 0), h1_))) := by
  refine (R_iconst zf36_0 zw_0 rfl).trans ?_
  refine (R_istore_n (ls' := [.inr (.inr (.inl 5)), .inl x0, .inl x1, .inl 0, vU, vU]) zf36_1 (Nat.le_of_ble_eq_true rfl) rfl rfl).trans ?_
  refine (R_aload_n zf36_2 rfl zlt_5 rfl).trans ?_
  refine (R_iload_n zf36_3 rfl rfl).trans ?_
  refine (R_iload_n zf36_4 rfl rfl).trans ?_
  refine (R_vcallI zf36_5 zo_36 zvl_3_58 (by rw [zr_37]; rfl) zl_37 (Nat.le_of_ble_eq_true rfl) rfl rfl (Nat.le_of_ble_eq_true rfl) (Nat.le_of_ble_eq_true rfl) (es := [.inr (.inr (.inl 5)), .inl x0, .inl x1, vU, vU]) rfl rfl zk1_5 zo_37).trans ?_
  refine congrArg (cI _) (funext fun a2_ => funext fun h1_ => ?_)
  refine (R_if_ne (t := 13) zf36_8 rfl rfl).trans ?_
  refine ite_congr rfl (fun c3_ => ?_) (fun c3_ => ?_)
  · refine (R_iconst zf36_13 zw_0 rfl).trans ?_
    refine (R_istore (ls' := [.inr (.inr (.inl 5)), .inl x0, .inl x1, .inl 0, .inl 0, vU]) zf36_14 (Nat.le_of_ble_eq_true rfl) rfl rfl).trans ?_
    rfl
  · refine (R_iconst zf36_11 zw_0 rfl).trans ?_
    exact R_ireturn zf36_12 (by rw [zr_36]; rfl)
-- CannonPost$LawReader.readAtom(I)Z at 0
theorem q25_0 (d : Nat) (x0 : Int) (h : MH) : Run (d + 1) 25 0 [.inr (.inr (.inl 5)), .inl x0, vU, vU, vU] [] h = (cI (Run d 9 0 [.inr (.inr (.inl 1))] [] h) fun a2_ h1_ => (if ¬ a2_ = 91 then (if 0 < a2_ then (cI (Run d 26 0 [.inr (.inr (.inl 125)), .inl (toC a2_)] [] h1_) fun a6_ h5_ => Run (d + 1) 25 89 [.inr (.inr (.inl 5)), .inl x0, .inl a2_, vU, vU] [.inl a6_] h5_) else Run (d + 1) 25 89 [.inr (.inr (.inl 5)), .inl x0, .inl a2_, vU, vU] [.inl (-1)] h1_) else (if x0 < 6 then (cI (Run d 24 0 [.inr (.inr (.inl 5)), .inl (wI (x0 + 1)), vU, vU, vU, vU] [] (up h1_ 1 2 (wI ((h1_ 1 2) + 1)))) fun a9_ h8_ => (if a9_ = 0 then some (some (.inl 0), h8_) else (cI (Run d 9 0 [.inr (.inr (.inl 1))] [] h8_) fun a12_ h11_ => (if a12_ = 93 then some (some (.inl 1), (up h11_ 1 2 (wI ((h11_ 1 2) + 1)))) else some (some (.inl 0), h11_))))) else some (some (.inl 0), h1_)))) := by
  refine (R_aload_n zf25_0 rfl zlt_5 rfl).trans ?_
  refine (R_getR zf25_1 zo_25 zfl_3_17 zk1_5 zft_3_2 zmr_5_2 rfl).trans ?_
  refine (R_vcallI zf25_4 zo_25 zvl_3_32 (by rw [zr_9]; rfl) zl_9 (Nat.le_of_ble_eq_true rfl) rfl rfl (Nat.le_of_ble_eq_true rfl) (Nat.le_of_ble_eq_true rfl) (es := [.inr (.inr (.inl 1))]) rfl rfl zk1_1 zo_9).trans ?_
  refine congrArg (cI _) (funext fun a2_ => funext fun h1_ => ?_)
  refine (R_istore_n (ls' := [.inr (.inr (.inl 5)), .inl x0, .inl a2_, vU, vU]) zf25_7 (Nat.le_of_ble_eq_true rfl) rfl rfl).trans ?_
  refine (R_iload_n zf25_8 rfl rfl).trans ?_
  refine (R_bipush zf25_9 zb_91 rfl).trans ?_
  refine (R_icmp_ne (t := 74) zf25_11 rfl rfl).trans ?_
  refine ite_congr rfl (fun c3_ => ?_) (fun c3_ => ?_)
  · refine (R_iload_n zf25_74 rfl rfl).trans ?_
    refine (R_if_gt (t := 82) zf25_75 rfl rfl).trans ?_
    refine ite_congr rfl (fun c4_ => ?_) (fun c4_ => ?_)
    · refine (R_ldcS zf25_82 zo_25 zcl_3_67 zrl_3_67 rfl).trans ?_
      refine (R_iload_n zf25_84 rfl rfl).trans ?_
      refine (R_i2c zf25_85 rfl).trans ?_
      refine (R_vcallI zf25_86 zo_25 zvl_3_69 (by rw [zr_26]; rfl) zl_26 (Nat.le_of_ble_eq_true rfl) rfl rfl (Nat.le_of_ble_eq_true rfl) (Nat.le_of_ble_eq_true rfl) (es := [.inr (.inr (.inl 125)), .inl (toC a2_)]) rfl rfl zk1_125 zo_26).trans ?_
      refine congrArg (cI _) (funext fun a6_ => funext fun h5_ => ?_)
      rfl
    · refine (R_iconst zf25_78 zw_m1 rfl).trans ?_
      refine (R_goto (t := 89) zf25_79 rfl).trans ?_
      rfl
  · refine (R_iload_n zf25_14 rfl rfl).trans ?_
    refine (R_bipush zf25_15 zb_6 rfl).trans ?_
    refine (R_icmp_lt (t := 22) zf25_17 rfl rfl).trans ?_
    refine ite_congr rfl (fun c7_ => ?_) (fun c7_ => ?_)
    · refine (R_aload_n zf25_22 rfl zlt_5 rfl).trans ?_
      refine (R_getR zf25_23 zo_25 zfl_3_17 zk1_5 zft_3_2 zmr_5_2 rfl).trans ?_
      refine (R_dup zf25_26 rfl rfl).trans ?_
      refine (R_getI zf25_27 zo_25 zfl_3_21 zk1_1 zft_10_2 rfl).trans ?_
      refine (R_iconst zf25_30 zw_1 rfl).trans ?_
      refine (R_iadd zf25_31 rfl).trans ?_
      refine (R_putI zf25_32 zo_25 zfl_3_21 zk1_1 zft_10_2 rfl).trans ?_
      refine (R_aload_n zf25_35 rfl zlt_5 rfl).trans ?_
      refine (R_iload_n zf25_36 rfl rfl).trans ?_
      refine (R_iconst zf25_37 zw_1 rfl).trans ?_
      refine (R_iadd zf25_38 rfl).trans ?_
      refine (R_vcallI zf25_39 zo_25 zvl_3_40 (by rw [zr_24]; rfl) zl_24 (Nat.le_of_ble_eq_true rfl) rfl rfl (Nat.le_of_ble_eq_true rfl) (Nat.le_of_ble_eq_true rfl) (es := [.inr (.inr (.inl 5)), .inl (wI (x0 + 1)), vU, vU, vU, vU]) rfl rfl zk1_5 zo_24).trans ?_
      refine congrArg (cI _) (funext fun a9_ => funext fun h8_ => ?_)
      refine (R_if_eq (t := 57) zf25_42 rfl rfl).trans ?_
      refine ite_congr rfl (fun c10_ => ?_) (fun c10_ => ?_)
      · refine (R_iconst zf25_57 zw_0 rfl).trans ?_
        exact R_ireturn zf25_58 (by rw [zr_25]; rfl)
      · refine (R_aload_n zf25_45 rfl zlt_5 rfl).trans ?_
        refine (R_getR zf25_46 zo_25 zfl_3_17 zk1_5 zft_3_2 zmr_5_2 rfl).trans ?_
        refine (R_vcallI zf25_49 zo_25 zvl_3_32 (by rw [zr_9]; rfl) zl_9 (Nat.le_of_ble_eq_true rfl) rfl rfl (Nat.le_of_ble_eq_true rfl) (Nat.le_of_ble_eq_true rfl) (es := [.inr (.inr (.inl 1))]) rfl rfl zk1_1 zo_9).trans ?_
        refine congrArg (cI _) (funext fun a12_ => funext fun h11_ => ?_)
        refine (R_bipush zf25_52 zb_93 rfl).trans ?_
        refine (R_icmp_eq (t := 59) zf25_54 rfl rfl).trans ?_
        refine ite_congr rfl (fun c13_ => ?_) (fun c13_ => ?_)
        · refine (R_aload_n zf25_59 rfl zlt_5 rfl).trans ?_
          refine (R_getR zf25_60 zo_25 zfl_3_17 zk1_5 zft_3_2 zmr_5_2 rfl).trans ?_
          refine (R_dup zf25_63 rfl rfl).trans ?_
          refine (R_getI zf25_64 zo_25 zfl_3_21 zk1_1 zft_10_2 rfl).trans ?_
          refine (R_iconst zf25_67 zw_1 rfl).trans ?_
          refine (R_iadd zf25_68 rfl).trans ?_
          refine (R_putI zf25_69 zo_25 zfl_3_21 zk1_1 zft_10_2 rfl).trans ?_
          refine (R_iconst zf25_72 zw_1 rfl).trans ?_
          exact R_ireturn zf25_73 (by rw [zr_25]; rfl)
        · refine (R_iconst zf25_57 zw_0 rfl).trans ?_
          exact R_ireturn zf25_58 (by rw [zr_25]; rfl)
    · refine (R_iconst zf25_20 zw_0 rfl).trans ?_
      exact R_ireturn zf25_21 (by rw [zr_25]; rfl)
-- CannonPost$LawReader.readSum(I)Z at 14
theorem q24_14 (d : Nat) (x0 : Int) (x1 : Int) (x2 : Int) (h : MH) : Run (d + 1) 24 14 [.inr (.inr (.inl 5)), .inl x0, .inl x1, .inl x2, vU, vU] [] h = (if 240 < x2 then (if x1 = (-1) then some (some (.inl 1), h) else (cV (Run d 33 0 [.inr (.inr (.inl 5)), .inl x1, .inl 0] [] h) fun h3_ => some (some (.inl 1), h3_))) else (cI (Run d 9 0 [.inr (.inr (.inl 1))] [] h) fun a5_ h4_ => (cI (Run d 34 0 [.inl a5_] [] h4_) fun a7_ h6_ => (if ¬ a7_ = (-1) then (if a7_ = 2 then (if x1 = (-1) then Run (d + 1) 24 90 [.inr (.inr (.inl 5)), .inl x0, .inl x1, .inl x2, .inl a7_, .inl 1] [] (up h6_ 1 2 (wI ((h6_ 1 2) + 1))) else (cV (Run d 33 0 [.inr (.inr (.inl 5)), .inl x1, .inl 0] [] (up h6_ 1 2 (wI ((h6_ 1 2) + 1)))) fun h11_ => Run (d + 1) 24 90 [.inr (.inr (.inl 5)), .inl x0, .inl x1, .inl x2, .inl a7_, .inl 1] [] h11_)) else (if ¬ a7_ = 3 then Run (d + 1) 24 90 [.inr (.inr (.inl 5)), .inl x0, .inl x1, .inl x2, .inl a7_, .inl 0] [] (up h6_ 1 2 (wI ((h6_ 1 2) + 1))) else (if x1 = (-1) then Run (d + 1) 24 90 [.inr (.inr (.inl 5)), .inl x0, .inl x1, .inl x2, .inl a7_, .inl 1] [] (up h6_ 1 2 (wI ((h6_ 1 2) + 1))) else (cV (Run d 33 0 [.inr (.inr (.inl 5)), .inl x1, .inl 0] [] (up h6_ 1 2 (wI ((h6_ 1 2) + 1)))) fun h14_ => Run (d + 1) 24 90 [.inr (.inr (.inl 5)), .inl x0, .inl x1, .inl x2, .inl a7_, .inl 1] [] h14_)))) else (if x1 = (-1) then some (some (.inl 1), h6_) else (cV (Run d 33 0 [.inr (.inr (.inl 5)), .inl x1, .inl 0] [] h6_) fun h16_ => some (some (.inl 1), h16_))))))) := by
  refine (R_iload_n zf24_14 rfl rfl).trans ?_
  refine (R_sipush zf24_15 zs_240 rfl).trans ?_
  refine (R_icmp_gt (t := 124) zf24_18 rfl rfl).trans ?_
  refine ite_congr rfl (fun c1_ => ?_) (fun c1_ => ?_)
  · refine (R_iload_n zf24_124 rfl rfl).trans ?_
    refine (R_iconst zf24_125 zw_m1 rfl).trans ?_
    refine (R_icmp_eq (t := 135) zf24_126 rfl rfl).trans ?_
    refine ite_congr rfl (fun c2_ => ?_) (fun c2_ => ?_)
    · refine (R_iconst zf24_135 zw_1 rfl).trans ?_
      exact R_ireturn zf24_136 (by rw [zr_24]; rfl)
    · refine (R_aload_n zf24_129 rfl zlt_5 rfl).trans ?_
      refine (R_iload_n zf24_130 rfl rfl).trans ?_
      refine (R_iconst zf24_131 zw_0 rfl).trans ?_
      refine (R_vcallV zf24_132 zo_24 zvl_3_50 zr_33 zl_33 (Nat.le_of_ble_eq_true rfl) rfl rfl (Nat.le_of_ble_eq_true rfl) (Nat.le_of_ble_eq_true rfl) (es := [.inr (.inr (.inl 5)), .inl x1, .inl 0]) rfl rfl zk1_5 zo_33).trans ?_
      refine congrArg (cV _) (funext fun h3_ => ?_)
      refine (R_iconst zf24_135 zw_1 rfl).trans ?_
      exact R_ireturn zf24_136 (by rw [zr_24]; rfl)
  · refine (R_aload_n zf24_21 rfl zlt_5 rfl).trans ?_
    refine (R_getR zf24_22 zo_24 zfl_3_17 zk1_5 zft_3_2 zmr_5_2 rfl).trans ?_
    refine (R_vcallI zf24_25 zo_24 zvl_3_32 (by rw [zr_9]; rfl) zl_9 (Nat.le_of_ble_eq_true rfl) rfl rfl (Nat.le_of_ble_eq_true rfl) (Nat.le_of_ble_eq_true rfl) (es := [.inr (.inr (.inl 1))]) rfl rfl zk1_1 zo_9).trans ?_
    refine congrArg (cI _) (funext fun a5_ => funext fun h4_ => ?_)
    refine (R_callI zf24_28 zo_24 zsl_3_64 (by rw [zr_34]; rfl) zl_34 (Nat.le_of_ble_eq_true rfl) rfl rfl (Nat.le_of_ble_eq_true rfl) (Nat.le_of_ble_eq_true rfl) (es := [.inl a5_]) rfl rfl).trans ?_
    refine congrArg (cI _) (funext fun a7_ => funext fun h6_ => ?_)
    refine (R_istore (ls' := [.inr (.inr (.inl 5)), .inl x0, .inl x1, .inl x2, .inl a7_, vU]) zf24_31 (Nat.le_of_ble_eq_true rfl) rfl rfl).trans ?_
    refine (R_iload zf24_33 rfl rfl).trans ?_
    refine (R_iconst zf24_35 zw_m1 rfl).trans ?_
    refine (R_icmp_ne (t := 42) zf24_36 rfl rfl).trans ?_
    refine ite_congr rfl (fun c8_ => ?_) (fun c8_ => ?_)
    · refine (R_aload_n zf24_42 rfl zlt_5 rfl).trans ?_
      refine (R_getR zf24_43 zo_24 zfl_3_17 zk1_5 zft_3_2 zmr_5_2 rfl).trans ?_
      refine (R_dup zf24_46 rfl rfl).trans ?_
      refine (R_getI zf24_47 zo_24 zfl_3_21 zk1_1 zft_10_2 rfl).trans ?_
      refine (R_iconst zf24_50 zw_1 rfl).trans ?_
      refine (R_iadd zf24_51 rfl).trans ?_
      refine (R_putI zf24_52 zo_24 zfl_3_21 zk1_1 zft_10_2 rfl).trans ?_
      refine (R_iload zf24_55 rfl rfl).trans ?_
      refine (R_iconst zf24_57 zw_2 rfl).trans ?_
      refine (R_icmp_eq (t := 67) zf24_58 rfl rfl).trans ?_
      refine ite_congr rfl (fun c9_ => ?_) (fun c9_ => ?_)
      · refine (R_iconst zf24_67 zw_1 rfl).trans ?_
        refine (R_goto (t := 72) zf24_68 rfl).trans ?_
        refine (R_istore (ls' := [.inr (.inr (.inl 5)), .inl x0, .inl x1, .inl x2, .inl a7_, .inl 1]) zf24_72 (Nat.le_of_ble_eq_true rfl) rfl rfl).trans ?_
        refine (R_iload zf24_74 rfl rfl).trans ?_
        refine ((R_if_eq (t := 90) zf24_76 rfl rfl).trans (if_neg (by decide))).trans ?_
        refine (R_iload_n zf24_79 rfl rfl).trans ?_
        refine (R_iconst zf24_80 zw_m1 rfl).trans ?_
        refine (R_icmp_eq (t := 90) zf24_81 rfl rfl).trans ?_
        refine ite_congr rfl (fun c10_ => ?_) (fun c10_ => ?_)
        · rfl
        · refine (R_aload_n zf24_84 rfl zlt_5 rfl).trans ?_
          refine (R_iload_n zf24_85 rfl rfl).trans ?_
          refine (R_iconst zf24_86 zw_0 rfl).trans ?_
          refine (R_vcallV zf24_87 zo_24 zvl_3_50 zr_33 zl_33 (Nat.le_of_ble_eq_true rfl) rfl rfl (Nat.le_of_ble_eq_true rfl) (Nat.le_of_ble_eq_true rfl) (es := [.inr (.inr (.inl 5)), .inl x1, .inl 0]) rfl rfl zk1_5 zo_33).trans ?_
          refine congrArg (cV _) (funext fun h11_ => ?_)
          rfl
      · refine (R_iload zf24_61 rfl rfl).trans ?_
        refine (R_iconst zf24_63 zw_3 rfl).trans ?_
        refine (R_icmp_ne (t := 71) zf24_64 rfl rfl).trans ?_
        refine ite_congr rfl (fun c12_ => ?_) (fun c12_ => ?_)
        · refine (R_iconst zf24_71 zw_0 rfl).trans ?_
          refine (R_istore (ls' := [.inr (.inr (.inl 5)), .inl x0, .inl x1, .inl x2, .inl a7_, .inl 0]) zf24_72 (Nat.le_of_ble_eq_true rfl) rfl rfl).trans ?_
          refine (R_iload zf24_74 rfl rfl).trans ?_
          refine ((R_if_eq (t := 90) zf24_76 rfl rfl).trans (if_pos (by decide))).trans ?_
          rfl
        · refine (R_iconst zf24_67 zw_1 rfl).trans ?_
          refine (R_goto (t := 72) zf24_68 rfl).trans ?_
          refine (R_istore (ls' := [.inr (.inr (.inl 5)), .inl x0, .inl x1, .inl x2, .inl a7_, .inl 1]) zf24_72 (Nat.le_of_ble_eq_true rfl) rfl rfl).trans ?_
          refine (R_iload zf24_74 rfl rfl).trans ?_
          refine ((R_if_eq (t := 90) zf24_76 rfl rfl).trans (if_neg (by decide))).trans ?_
          refine (R_iload_n zf24_79 rfl rfl).trans ?_
          refine (R_iconst zf24_80 zw_m1 rfl).trans ?_
          refine (R_icmp_eq (t := 90) zf24_81 rfl rfl).trans ?_
          refine ite_congr rfl (fun c13_ => ?_) (fun c13_ => ?_)
          · rfl
          · refine (R_aload_n zf24_84 rfl zlt_5 rfl).trans ?_
            refine (R_iload_n zf24_85 rfl rfl).trans ?_
            refine (R_iconst zf24_86 zw_0 rfl).trans ?_
            refine (R_vcallV zf24_87 zo_24 zvl_3_50 zr_33 zl_33 (Nat.le_of_ble_eq_true rfl) rfl rfl (Nat.le_of_ble_eq_true rfl) (Nat.le_of_ble_eq_true rfl) (es := [.inr (.inr (.inl 5)), .inl x1, .inl 0]) rfl rfl zk1_5 zo_33).trans ?_
            refine congrArg (cV _) (funext fun h14_ => ?_)
            rfl
    · refine (R_goto (t := 124) zf24_39 rfl).trans ?_
      refine (R_iload_n zf24_124 rfl rfl).trans ?_
      refine (R_iconst zf24_125 zw_m1 rfl).trans ?_
      refine (R_icmp_eq (t := 135) zf24_126 rfl rfl).trans ?_
      refine ite_congr rfl (fun c15_ => ?_) (fun c15_ => ?_)
      · refine (R_iconst zf24_135 zw_1 rfl).trans ?_
        exact R_ireturn zf24_136 (by rw [zr_24]; rfl)
      · refine (R_aload_n zf24_129 rfl zlt_5 rfl).trans ?_
        refine (R_iload_n zf24_130 rfl rfl).trans ?_
        refine (R_iconst zf24_131 zw_0 rfl).trans ?_
        refine (R_vcallV zf24_132 zo_24 zvl_3_50 zr_33 zl_33 (Nat.le_of_ble_eq_true rfl) rfl rfl (Nat.le_of_ble_eq_true rfl) (Nat.le_of_ble_eq_true rfl) (es := [.inr (.inr (.inl 5)), .inl x1, .inl 0]) rfl rfl zk1_5 zo_33).trans ?_
        refine congrArg (cV _) (funext fun h16_ => ?_)
        refine (R_iconst zf24_135 zw_1 rfl).trans ?_
        exact R_ireturn zf24_136 (by rw [zr_24]; rfl)
-- CannonPost.allSayable(LCannonPost$State;I)I at 24
theorem q105_24_1 (d : Nat) (x0 : Int) (x1 : Int) (x2 : Int) (x3 : Int) (h : MH) : Run (d + 1) 105 24 [.inr (.inr (.inl 0)), .inr (.inr (.inl 13)), .inl x0, .inl x1, .inl x2, .inl x3] [] h = (if 6 ≤ x3 then some (some (.inl x2), h) else (if (iAnd (iShr x1 x3) 1) = 0 then Run (d + 1) 105 24 [.inr (.inr (.inl 0)), .inr (.inr (.inl 13)), .inl x0, .inl x1, .inl x2, .inl (wI (x3 + 1))] [] h else (cI (Run d 76 0 [.inl x2] [] h) fun a4_ h3_ => (cI (Run d 62 0 [.inr (.inr (.inl 2))] [] h3_) fun a6_ h5_ => (if a6_ ≤ a4_ then Run (d + 1) 105 24 [.inr (.inr (.inl 0)), .inr (.inr (.inl 13)), .inl x0, .inl x1, .inl x2, .inl (wI (x3 + 1))] [] h5_ else Run (d + 1) 105 24 [.inr (.inr (.inl 0)), .inr (.inr (.inl 13)), .inl x0, .inl x1, .inl (iOr x2 (iShl 1 x3)), .inl (wI (x3 + 1))] [] h5_))))) := by
  refine (R_iload zf105_24 rfl rfl).trans ?_
  refine (R_bipush zf105_26 zb_6 rfl).trans ?_
  refine (R_icmp_ge (t := 70) zf105_28 rfl rfl).trans ?_
  refine ite_congr rfl (fun c1_ => ?_) (fun c1_ => ?_)
  · refine (R_iload zf105_70 rfl rfl).trans ?_
    exact R_ireturn_i zf105_72 zr_105
  · refine (R_iload_n zf105_31 rfl rfl).trans ?_
    refine (R_iload zf105_32 rfl rfl).trans ?_
    refine (R_ishr zf105_34 rfl).trans ?_
    refine (R_iconst zf105_35 zw_1 rfl).trans ?_
    refine (R_iand zf105_36 rfl).trans ?_
    refine (R_if_eq (t := 64) zf105_37 rfl rfl).trans ?_
    refine ite_congr rfl (fun c2_ => ?_) (fun c2_ => ?_)
    · refine (R_iinc (ls' := [.inr (.inr (.inl 0)), .inr (.inr (.inl 13)), .inl x0, .inl x1, .inl x2, .inl (wI (x3 + 1))]) zf105_64 rfl rfl rfl).trans ?_
      refine (R_goto (t := 24) zf105_67 rfl).trans ?_
      rfl
    · refine (R_iload zf105_40 rfl rfl).trans ?_
      refine (R_callI zf105_42 zo_105 zsl_11_271 (by rw [zr_76]; rfl) zl_76 (Nat.le_of_ble_eq_true rfl) rfl rfl (Nat.le_of_ble_eq_true rfl) (Nat.le_of_ble_eq_true rfl) (es := [.inl x2]) rfl rfl).trans ?_
      refine congrArg (cI _) (funext fun a4_ => funext fun h3_ => ?_)
      refine (R_aload_n zf105_45 rfl zlt_0 rfl).trans ?_
      refine (R_getR zf105_46 zo_105 zfl_11_19 zk1_0 zft_11_1 zmr_0_1 rfl).trans ?_
      refine (R_vcallI zf105_49 zo_105 zvl_11_165 (by rw [zr_62]; rfl) zl_62 (Nat.le_of_ble_eq_true rfl) rfl rfl (Nat.le_of_ble_eq_true rfl) (Nat.le_of_ble_eq_true rfl) (es := [.inr (.inr (.inl 2))]) rfl rfl zk1_2 zo_62).trans ?_
      refine congrArg (cI _) (funext fun a6_ => funext fun h5_ => ?_)
      refine (R_icmp_ge (t := 64) zf105_52 rfl rfl).trans ?_
      refine ite_congr rfl (fun c7_ => ?_) (fun c7_ => ?_)
      · refine (R_iinc (ls' := [.inr (.inr (.inl 0)), .inr (.inr (.inl 13)), .inl x0, .inl x1, .inl x2, .inl (wI (x3 + 1))]) zf105_64 rfl rfl rfl).trans ?_
        refine (R_goto (t := 24) zf105_67 rfl).trans ?_
        rfl
      · refine (R_iload zf105_55 rfl rfl).trans ?_
        refine (R_iconst zf105_57 zw_1 rfl).trans ?_
        refine (R_iload zf105_58 rfl rfl).trans ?_
        refine (R_ishl zf105_60 rfl).trans ?_
        refine (R_ior zf105_61 rfl).trans ?_
        refine (R_istore (ls' := [.inr (.inr (.inl 0)), .inr (.inr (.inl 13)), .inl x0, .inl x1, .inl (iOr x2 (iShl 1 x3)), .inl x3]) zf105_62 (Nat.le_of_ble_eq_true rfl) rfl rfl).trans ?_
        refine (R_iinc (ls' := [.inr (.inr (.inl 0)), .inr (.inr (.inl 13)), .inl x0, .inl x1, .inl (iOr x2 (iShl 1 x3)), .inl (wI (x3 + 1))]) zf105_64 rfl rfl rfl).trans ?_
        refine (R_goto (t := 24) zf105_67 rfl).trans ?_
        rfl
-- CannonPost$Flight.comesTo(LCannonPost$State;IIII)I at 0
theorem q79_0_1 (d : Nat) (x0 : Int) (x1 : Int) (x2 : Int) (x3 : Int) (h : MH) : Run (d + 1) 79 0 [.inr (.inr (.inl 8)), .inr (.inr (.inl 13)), .inl x0, .inl x1, .inl x2, .inl x3, vU, vU] [] h = (cI (Run d 80 0 [.inl (h 93 1), .inl (h 93 2), .inl x3] [] h) fun a2_ h1_ => (cI (Run d 81 0 [.inr (.inr (.inl 8)), .inl x0, .inl x1, .inl x2, .inl a2_, .inl (h1_ 93 3), vU, vU, vU] [] h1_) fun a4_ h3_ => (cI (Run d 19 0 [.inr (.inr (.inl 2)), .inl x1] [] h3_) fun a6_ h5_ => (cI (Run d 86 0 [.inl a6_, .inl a4_, .inl x3] [] h5_) fun a8_ h7_ => some (some (.inl a8_), h7_))))) := by
  refine (R_aload_n zf79_0 rfl zlt_13 rfl).trans ?_
  refine (R_getR zf79_1 zo_79 zfl_0_66 zk1_13 zft_9_0 zmr_13_0 rfl).trans ?_
  refine (R_iconst zf79_4 zw_1 rfl).trans ?_
  refine (R_ialdc zf79_5 zk_93 (by decide) rfl rfl).trans ?_
  refine (R_aload_n zf79_6 rfl zlt_13 rfl).trans ?_
  refine (R_getR zf79_7 zo_79 zfl_0_66 zk1_13 zft_9_0 zmr_13_0 rfl).trans ?_
  refine (R_iconst zf79_10 zw_2 rfl).trans ?_
  refine (R_ialdc zf79_11 zk_93 (by decide) rfl rfl).trans ?_
  refine (R_iload zf79_12 rfl rfl).trans ?_
  refine (R_callI zf79_14 zo_79 zsl_0_71 (by rw [zr_80]; rfl) zl_80 (Nat.le_of_ble_eq_true rfl) rfl rfl (Nat.le_of_ble_eq_true rfl) (Nat.le_of_ble_eq_true rfl) (es := [.inl (h 93 1), .inl (h 93 2), .inl x3]) rfl rfl).trans ?_
  refine congrArg (cI _) (funext fun a2_ => funext fun h1_ => ?_)
  refine (R_istore (ls' := [.inr (.inr (.inl 8)), .inr (.inr (.inl 13)), .inl x0, .inl x1, .inl x2, .inl x3, .inl a2_, vU]) zf79_17 (Nat.le_of_ble_eq_true rfl) rfl rfl).trans ?_
  refine (R_aload_n zf79_19 rfl zlt_8 rfl).trans ?_
  refine (R_iload_n zf79_20 rfl rfl).trans ?_
  refine (R_iload_n zf79_21 rfl rfl).trans ?_
  refine (R_iload zf79_22 rfl rfl).trans ?_
  refine (R_iload zf79_24 rfl rfl).trans ?_
  refine (R_aload_n zf79_26 rfl zlt_13 rfl).trans ?_
  refine (R_getR zf79_27 zo_79 zfl_0_66 zk1_13 zft_9_0 zmr_13_0 rfl).trans ?_
  refine (R_iconst zf79_30 zw_3 rfl).trans ?_
  refine (R_ialdc zf79_31 zk_93 (by decide) rfl rfl).trans ?_
  refine (R_vcallI zf79_32 zo_79 zvl_0_75 (by rw [zr_81]; rfl) zl_81 (Nat.le_of_ble_eq_true rfl) rfl rfl (Nat.le_of_ble_eq_true rfl) (Nat.le_of_ble_eq_true rfl) (es := [.inr (.inr (.inl 8)), .inl x0, .inl x1, .inl x2, .inl a2_, .inl (h1_ 93 3), vU, vU, vU]) rfl rfl zk1_8 zo_81).trans ?_
  refine congrArg (cI _) (funext fun a4_ => funext fun h3_ => ?_)
  refine (R_istore (ls' := [.inr (.inr (.inl 8)), .inr (.inr (.inl 13)), .inl x0, .inl x1, .inl x2, .inl x3, .inl a2_, .inl a4_]) zf79_35 (Nat.le_of_ble_eq_true rfl) rfl rfl).trans ?_
  refine (R_aload_n zf79_37 rfl zlt_8 rfl).trans ?_
  refine (R_getR zf79_38 zo_79 zfl_0_20 zk1_8 zft_0_0 zmr_8_0 rfl).trans ?_
  refine (R_iload_n zf79_41 rfl rfl).trans ?_
  refine (R_vcallI zf79_42 zo_79 zvl_0_79 (by rw [zr_19]; rfl) zl_19 (Nat.le_of_ble_eq_true rfl) rfl rfl (Nat.le_of_ble_eq_true rfl) (Nat.le_of_ble_eq_true rfl) (es := [.inr (.inr (.inl 2)), .inl x1]) rfl rfl zk1_2 zo_19).trans ?_
  refine congrArg (cI _) (funext fun a6_ => funext fun h5_ => ?_)
  refine (R_iload zf79_45 rfl rfl).trans ?_
  refine (R_iload zf79_47 rfl rfl).trans ?_
  refine (R_callI zf79_49 zo_79 zsl_0_82 (by rw [zr_86]; rfl) zl_86 (Nat.le_of_ble_eq_true rfl) rfl rfl (Nat.le_of_ble_eq_true rfl) (Nat.le_of_ble_eq_true rfl) (es := [.inl a6_, .inl a4_, .inl x3]) rfl rfl).trans ?_
  refine congrArg (cI _) (funext fun a8_ => funext fun h7_ => ?_)
  exact R_ireturn_i zf79_52 zr_79
-- CannonPost$State.land(III)V at 0
theorem q88_0_1 (d : Nat) (x0 : Int) (x1 : Int) (x2 : Int) (h : MH) : Run d 88 0 [.inr (.inr (.inl 13)), .inl x0, .inl x1, .inl x2] [] h = (if 0 ≤ (wI (21 + x1)) ∧ (wI (21 + x1)) < 37 then (if (h 93 (wI (21 + x1)).toNat) ≤ 0 then (if 0 ≤ (wI (11 + x0)) ∧ (wI (11 + x0)) < 37 then (if 0 ≤ (wI (11 + x0)) ∧ (wI (11 + x0)) < 37 then Run d 88 53 [.inr (.inr (.inl 13)), .inl x0, .inl x1, .inl x2] [] (up h 93 (wI (11 + x0)).toNat (mn 99 (wI ((h 93 (wI (11 + x0)).toNat) + 1)))) else none) else none) else (if 0 ≤ (wI (21 + x1)) ∧ (wI (21 + x1)) < 37 then (if 0 ≤ (wI (21 + x1)) ∧ (wI (21 + x1)) < 37 then Run d 88 53 [.inr (.inr (.inl 13)), .inl x0, .inl x1, .inl x2] [] (up h 93 (wI (21 + x1)).toNat (wI ((h 93 (wI (21 + x1)).toNat) - 1))) else none) else none)) else none) := by
  refine (R_aload_n zf88_0 rfl zlt_13 rfl).trans ?_
  refine (R_getR zf88_1 zo_88 zfl_9_15 zk1_13 zft_9_0 zmr_13_0 rfl).trans ?_
  refine (R_bipush zf88_4 zb_21 rfl).trans ?_
  refine (R_iload_n zf88_6 rfl rfl).trans ?_
  refine (R_iadd zf88_7 rfl).trans ?_
  refine (R_iald zf88_8 zk_93 rfl).trans ?_
  refine ite_congr rfl (fun c1_ => ?_) (fun _ => rfl)
  refine (R_if_le (t := 28) zf88_9 rfl rfl).trans ?_
  refine ite_congr rfl (fun c2_ => ?_) (fun c2_ => ?_)
  · refine (R_aload_n zf88_28 rfl zlt_13 rfl).trans ?_
    refine (R_getR zf88_29 zo_88 zfl_9_15 zk1_13 zft_9_0 zmr_13_0 rfl).trans ?_
    refine (R_bipush zf88_32 zb_11 rfl).trans ?_
    refine (R_iload_n zf88_34 rfl rfl).trans ?_
    refine (R_iadd zf88_35 rfl).trans ?_
    refine (R_bipush zf88_36 zb_99 rfl).trans ?_
    refine (R_aload_n zf88_38 rfl zlt_13 rfl).trans ?_
    refine (R_getR zf88_39 zo_88 zfl_9_15 zk1_13 zft_9_0 zmr_13_0 rfl).trans ?_
    refine (R_bipush zf88_42 zb_11 rfl).trans ?_
    refine (R_iload_n zf88_44 rfl rfl).trans ?_
    refine (R_iadd zf88_45 rfl).trans ?_
    refine (R_iald zf88_46 zk_93 rfl).trans ?_
    refine ite_congr rfl (fun c3_ => ?_) (fun _ => rfl)
    refine (R_iconst zf88_47 zw_1 rfl).trans ?_
    refine (R_iadd zf88_48 rfl).trans ?_
    refine (R_mmin zf88_49 zo_88 zsl_9_64 zml_9_64 zna_9_64 (Nat.le_of_ble_eq_true rfl) rfl).trans ?_
    refine (R_iast zf88_52 zk_93 rfl).trans ?_
    refine ite_congr rfl (fun c4_ => ?_) (fun _ => rfl)
    rfl
  · refine (R_aload_n zf88_12 rfl zlt_13 rfl).trans ?_
    refine (R_getR zf88_13 zo_88 zfl_9_15 zk1_13 zft_9_0 zmr_13_0 rfl).trans ?_
    refine (R_bipush zf88_16 zb_21 rfl).trans ?_
    refine (R_iload_n zf88_18 rfl rfl).trans ?_
    refine (R_iadd zf88_19 rfl).trans ?_
    refine (R_dup2 zf88_20 rfl rfl rfl).trans ?_
    refine (R_iald zf88_21 zk_93 rfl).trans ?_
    refine ite_congr rfl (fun c5_ => ?_) (fun _ => rfl)
    refine (R_iconst zf88_22 zw_1 rfl).trans ?_
    refine (R_isub zf88_23 rfl).trans ?_
    refine (R_iast zf88_24 zk_93 rfl).trans ?_
    refine ite_congr rfl (fun c6_ => ?_) (fun _ => rfl)
    refine (R_goto (t := 53) zf88_25 rfl).trans ?_
    rfl
-- CannonPost$State.noteShot(IIII)V at 0
theorem q89_0_1 (d : Nat) (x0 : Int) (x1 : Int) (x2 : Int) (x3 : Int) (h : MH) : Run d 89 0 [.inr (.inr (.inl 13)), .inl x0, .inl x1, .inl x2, .inl x3, vU] [] h = (if 0 ≤ (wI (((h 93 5).tmod 100) * 4)) ∧ (wI (((h 93 5).tmod 100) * 4)) < 400 then (if 0 ≤ (wI ((wI (((h 93 5).tmod 100) * 4)) + 1)) ∧ (wI ((wI (((h 93 5).tmod 100) * 4)) + 1)) < 400 then (if 0 ≤ (wI ((wI (((h 93 5).tmod 100) * 4)) + 2)) ∧ (wI ((wI (((h 93 5).tmod 100) * 4)) + 2)) < 400 then (if 0 ≤ (wI ((wI (((h 93 5).tmod 100) * 4)) + 3)) ∧ (wI ((wI (((h 93 5).tmod 100) * 4)) + 3)) < 400 then some (none, (up (up (up (up (up h 94 (wI (((h 93 5).tmod 100) * 4)).toNat x0) 94 (wI ((wI (((h 93 5).tmod 100) * 4)) + 1)).toNat x1) 94 (wI ((wI (((h 93 5).tmod 100) * 4)) + 2)).toNat x2) 94 (wI ((wI (((h 93 5).tmod 100) * 4)) + 3)).toNat x3) 93 5 (wI (((up (up (up (up h 94 (wI (((h 93 5).tmod 100) * 4)).toNat x0) 94 (wI ((wI (((h 93 5).tmod 100) * 4)) + 1)).toNat x1) 94 (wI ((wI (((h 93 5).tmod 100) * 4)) + 2)).toNat x2) 94 (wI ((wI (((h 93 5).tmod 100) * 4)) + 3)).toNat x3) 93 5) + 1)))) else none) else none) else none) else none) := by
  refine (R_aload_n zf89_0 rfl zlt_13 rfl).trans ?_
  refine (R_getR zf89_1 zo_89 zfl_9_15 zk1_13 zft_9_0 zmr_13_0 rfl).trans ?_
  refine (R_iconst zf89_4 zw_5 rfl).trans ?_
  refine (R_ialdc zf89_5 zk_93 (by decide) rfl rfl).trans ?_
  refine (R_bipush zf89_6 zb_100 rfl).trans ?_
  refine (R_irem zf89_8 (by decide) rfl).trans ?_
  refine (R_iconst zf89_9 zw_4 rfl).trans ?_
  refine (R_imul zf89_10 rfl).trans ?_
  refine (R_istore (ls' := [.inr (.inr (.inl 13)), .inl x0, .inl x1, .inl x2, .inl x3, .inl (wI (((h 93 5).tmod 100) * 4))]) zf89_11 (Nat.le_of_ble_eq_true rfl) rfl rfl).trans ?_
  refine (R_aload_n zf89_13 rfl zlt_13 rfl).trans ?_
  refine (R_getR zf89_14 zo_89 zfl_9_19 zk1_13 zft_9_1 zmr_13_1 rfl).trans ?_
  refine (R_iload zf89_17 rfl rfl).trans ?_
  refine (R_iload_n zf89_19 rfl rfl).trans ?_
  refine (R_iast zf89_20 zk_94 rfl).trans ?_
  refine ite_congr rfl (fun c1_ => ?_) (fun _ => rfl)
  refine (R_aload_n zf89_21 rfl zlt_13 rfl).trans ?_
  refine (R_getR zf89_22 zo_89 zfl_9_19 zk1_13 zft_9_1 zmr_13_1 rfl).trans ?_
  refine (R_iload zf89_25 rfl rfl).trans ?_
  refine (R_iconst zf89_27 zw_1 rfl).trans ?_
  refine (R_iadd zf89_28 rfl).trans ?_
  refine (R_iload_n zf89_29 rfl rfl).trans ?_
  refine (R_iast zf89_30 zk_94 rfl).trans ?_
  refine ite_congr rfl (fun c2_ => ?_) (fun _ => rfl)
  refine (R_aload_n zf89_31 rfl zlt_13 rfl).trans ?_
  refine (R_getR zf89_32 zo_89 zfl_9_19 zk1_13 zft_9_1 zmr_13_1 rfl).trans ?_
  refine (R_iload zf89_35 rfl rfl).trans ?_
  refine (R_iconst zf89_37 zw_2 rfl).trans ?_
  refine (R_iadd zf89_38 rfl).trans ?_
  refine (R_iload_n zf89_39 rfl rfl).trans ?_
  refine (R_iast zf89_40 zk_94 rfl).trans ?_
  refine ite_congr rfl (fun c3_ => ?_) (fun _ => rfl)
  refine (R_aload_n zf89_41 rfl zlt_13 rfl).trans ?_
  refine (R_getR zf89_42 zo_89 zfl_9_19 zk1_13 zft_9_1 zmr_13_1 rfl).trans ?_
  refine (R_iload zf89_45 rfl rfl).trans ?_
  refine (R_iconst zf89_47 zw_3 rfl).trans ?_
  refine (R_iadd zf89_48 rfl).trans ?_
  refine (R_iload zf89_49 rfl rfl).trans ?_
  refine (R_iast zf89_51 zk_94 rfl).trans ?_
  refine ite_congr rfl (fun c4_ => ?_) (fun _ => rfl)
  refine (R_aload_n zf89_52 rfl zlt_13 rfl).trans ?_
  refine (R_getR zf89_53 zo_89 zfl_9_15 zk1_13 zft_9_0 zmr_13_0 rfl).trans ?_
  refine (R_iconst zf89_56 zw_5 rfl).trans ?_
  refine (R_dup2 zf89_57 rfl rfl rfl).trans ?_
  refine (R_ialdc zf89_58 zk_93 (by decide) rfl rfl).trans ?_
  refine (R_iconst zf89_59 zw_1 rfl).trans ?_
  refine (R_iadd zf89_60 rfl).trans ?_
  refine (R_iastc zf89_61 zk_93 (by decide) rfl rfl).trans ?_
  exact R_return zf89_62 zr_89
-- CannonPost$State.passHour(I)V at 2
theorem q100_2_1 (d : Nat) (x0 : Int) (x1 : Int) (h : MH) : Run d 100 2 [.inr (.inr (.inl 13)), .inl x0, .inl x1] [] h = (if 5 ≤ x1 then (if ¬ (((up h 93 4 (wI ((h 93 4) + 1))) 93 4).tmod 4) = 0 then some (none, (up h 93 4 (wI ((h 93 4) + 1)))) else Run d 100 60 [.inr (.inr (.inl 13)), .inl x0, .inl 0] [] (up h 93 4 (wI ((h 93 4) + 1)))) else (if 0 ≤ (wI (16 + x1)) ∧ (wI (16 + x1)) < 37 then (if 0 ≤ (wI (16 + x1)) ∧ (wI (16 + x1)) < 37 then Run d 100 2 [.inr (.inr (.inl 13)), .inl x0, .inl (wI (x1 + 1))] [] (up h 93 (wI (16 + x1)).toNat (mx 0 (wI ((h 93 (wI (16 + x1)).toNat) - 1)))) else none) else none)) := by
  refine (R_iload_n zf100_2 rfl rfl).trans ?_
  refine (R_iconst zf100_3 zw_5 rfl).trans ?_
  refine (R_icmp_ge (t := 37) zf100_4 rfl rfl).trans ?_
  refine ite_congr rfl (fun c1_ => ?_) (fun c1_ => ?_)
  · refine (R_aload_n zf100_37 rfl zlt_13 rfl).trans ?_
    refine (R_getR zf100_38 zo_100 zfl_9_15 zk1_13 zft_9_0 zmr_13_0 rfl).trans ?_
    refine (R_iconst zf100_41 zw_4 rfl).trans ?_
    refine (R_dup2 zf100_42 rfl rfl rfl).trans ?_
    refine (R_ialdc zf100_43 zk_93 (by decide) rfl rfl).trans ?_
    refine (R_iconst zf100_44 zw_1 rfl).trans ?_
    refine (R_iadd zf100_45 rfl).trans ?_
    refine (R_iastc zf100_46 zk_93 (by decide) rfl rfl).trans ?_
    refine (R_aload_n zf100_47 rfl zlt_13 rfl).trans ?_
    refine (R_getR zf100_48 zo_100 zfl_9_15 zk1_13 zft_9_0 zmr_13_0 rfl).trans ?_
    refine (R_iconst zf100_51 zw_4 rfl).trans ?_
    refine (R_ialdc zf100_52 zk_93 (by decide) rfl rfl).trans ?_
    refine (R_iconst zf100_53 zw_4 rfl).trans ?_
    refine (R_irem zf100_54 (by decide) rfl).trans ?_
    refine (R_if_ne (t := 96) zf100_55 rfl rfl).trans ?_
    refine ite_congr rfl (fun c2_ => ?_) (fun c2_ => ?_)
    · exact R_return zf100_96 zr_100
    · refine (R_iconst zf100_58 zw_0 rfl).trans ?_
      refine (R_istore_n (ls' := [.inr (.inr (.inl 13)), .inl x0, .inl 0]) zf100_59 (Nat.le_of_ble_eq_true rfl) rfl rfl).trans ?_
      rfl
  · refine (R_aload_n zf100_7 rfl zlt_13 rfl).trans ?_
    refine (R_getR zf100_8 zo_100 zfl_9_15 zk1_13 zft_9_0 zmr_13_0 rfl).trans ?_
    refine (R_bipush zf100_11 zb_16 rfl).trans ?_
    refine (R_iload_n zf100_13 rfl rfl).trans ?_
    refine (R_iadd zf100_14 rfl).trans ?_
    refine (R_iconst zf100_15 zw_0 rfl).trans ?_
    refine (R_aload_n zf100_16 rfl zlt_13 rfl).trans ?_
    refine (R_getR zf100_17 zo_100 zfl_9_15 zk1_13 zft_9_0 zmr_13_0 rfl).trans ?_
    refine (R_bipush zf100_20 zb_16 rfl).trans ?_
    refine (R_iload_n zf100_22 rfl rfl).trans ?_
    refine (R_iadd zf100_23 rfl).trans ?_
    refine (R_iald zf100_24 zk_93 rfl).trans ?_
    refine ite_congr rfl (fun c3_ => ?_) (fun _ => rfl)
    refine (R_iconst zf100_25 zw_1 rfl).trans ?_
    refine (R_isub zf100_26 rfl).trans ?_
    refine (R_mmax zf100_27 zo_100 zsl_9_58 zml_9_58 zna_9_58 (Nat.le_of_ble_eq_true rfl) rfl).trans ?_
    refine (R_iast zf100_30 zk_93 rfl).trans ?_
    refine ite_congr rfl (fun c4_ => ?_) (fun _ => rfl)
    refine (R_iinc (ls' := [.inr (.inr (.inl 13)), .inl x0, .inl (wI (x1 + 1))]) zf100_31 rfl rfl rfl).trans ?_
    refine (R_goto (t := 2) zf100_34 rfl).trans ?_
    rfl
-- CannonPost$Lawbook.worth()I at 218
theorem q84_218 (d : Nat) (r0 : Nat) (hr0 : r0 < 4) (x1 : Int) (x2 : Int) (x3 : Int) (x4 : Int) (h : MH) : Run (d + 1) 84 218 [.inr (.inr (.inl 6)), .inr (.inr (.inl (25 + r0))), .inl x1, .inl x2, .inl x3, .inl x4] [] h = (if x1 ≤ 1 then Run (d + 1) 84 34 [.inr (.inr (.inl 6)), .inr (.inr (.inl (25 + r0))), .inl x1, .inl (wI (x2 + 1)), .inl x3, .inl x4] [] h else (if 0 ≤ (wI ((wI (x1 + (-1))) - 1)) ∧ (wI ((wI (x1 + (-1))) - 1)) < 64 then (if 0 ≤ (wI (x1 + (-1))) ∧ (wI (x1 + (-1))) < 64 then (cI (Run d 85 0 [.inl x3, .inl (h 30 (wI ((wI (x1 + (-1))) - 1)).toNat), .inl (h 30 (wI (x1 + (-1))).toNat), vU, vU] [] h) fun a5_ h4_ => (if 0 ≤ (wI ((wI (x1 + (-1))) - 1)) ∧ (wI ((wI (x1 + (-1))) - 1)) < 64 then Run (d + 1) 84 34 [.inr (.inr (.inl 6)), .inr (.inr (.inl (25 + r0))), .inl (wI (x1 + (-1))), .inl (wI (x2 + 1)), .inl x3, .inl x4] [] (up h4_ 30 (wI ((wI (x1 + (-1))) - 1)).toNat a5_) else none)) else none) else none)) := by
  refine (R_iload_n zf84_218 rfl rfl).trans ?_
  refine (R_iconst zf84_219 zw_1 rfl).trans ?_
  refine (R_icmp_le (t := 253) zf84_220 rfl rfl).trans ?_
  refine ite_congr rfl (fun c1_ => ?_) (fun c1_ => ?_)
  · refine (R_iinc (ls' := [.inr (.inr (.inl 6)), .inr (.inr (.inl (25 + r0))), .inl x1, .inl (wI (x2 + 1)), .inl x3, .inl x4]) zf84_253 rfl rfl rfl).trans ?_
    refine (R_goto (t := 34) zf84_256 rfl).trans ?_
    rfl
  · refine (R_iinc (ls' := [.inr (.inr (.inl 6)), .inr (.inr (.inl (25 + r0))), .inl (wI (x1 + (-1))), .inl x2, .inl x3, .inl x4]) zf84_223 rfl rfl rfl).trans ?_
    refine (R_aload_n zf84_226 rfl zlt_6 rfl).trans ?_
    refine (R_getR zf84_227 zo_84 zfl_4_29 zk1_6 zft_4_5 zmr_6_5 rfl).trans ?_
    refine (R_iload_n zf84_230 rfl rfl).trans ?_
    refine (R_iconst zf84_231 zw_1 rfl).trans ?_
    refine (R_isub zf84_232 rfl).trans ?_
    refine (R_iload zf84_233 rfl rfl).trans ?_
    refine (R_aload_n zf84_235 rfl zlt_6 rfl).trans ?_
    refine (R_getR zf84_236 zo_84 zfl_4_29 zk1_6 zft_4_5 zmr_6_5 rfl).trans ?_
    refine (R_iload_n zf84_239 rfl rfl).trans ?_
    refine (R_iconst zf84_240 zw_1 rfl).trans ?_
    refine (R_isub zf84_241 rfl).trans ?_
    refine (R_iald zf84_242 zk_30 rfl).trans ?_
    refine ite_congr rfl (fun c2_ => ?_) (fun _ => rfl)
    refine (R_aload_n zf84_243 rfl zlt_6 rfl).trans ?_
    refine (R_getR zf84_244 zo_84 zfl_4_29 zk1_6 zft_4_5 zmr_6_5 rfl).trans ?_
    refine (R_iload_n zf84_247 rfl rfl).trans ?_
    refine (R_iald zf84_248 zk_30 rfl).trans ?_
    refine ite_congr rfl (fun c3_ => ?_) (fun _ => rfl)
    refine (R_callI zf84_249 zo_84 zsl_4_51 (by rw [zr_85]; rfl) zl_85 (Nat.le_of_ble_eq_true rfl) rfl rfl (Nat.le_of_ble_eq_true rfl) (Nat.le_of_ble_eq_true rfl) (es := [.inl x3, .inl (h 30 (wI ((wI (x1 + (-1))) - 1)).toNat), .inl (h 30 (wI (x1 + (-1))).toNat), vU, vU]) rfl rfl).trans ?_
    refine congrArg (cI _) (funext fun a5_ => funext fun h4_ => ?_)
    refine (R_iast zf84_252 zk_30 rfl).trans ?_
    refine ite_congr rfl (fun c6_ => ?_) (fun _ => rfl)
    refine (R_iinc (ls' := [.inr (.inr (.inl 6)), .inr (.inr (.inl (25 + r0))), .inl (wI (x1 + (-1))), .inl (wI (x2 + 1)), .inl x3, .inl x4]) zf84_253 rfl rfl rfl).trans ?_
    refine (R_goto (t := 34) zf84_256 rfl).trans ?_
    rfl
-- CannonPost$Flight.reckon(LCannonPost$State;II)V at 41
theorem q126_41_1 (d : Nat) (x0 : Int) (x1 : Int) (x2 : Int) (x3 : Int) (x4 : Int) (x5 : Int) (h : MH) : Run (d + 1) 126 41 [.inr (.inr (.inl 8)), .inr (.inr (.inl 12)), .inl x0, .inl x1, .inl x2, .inl x3, .inl x4, .inl x5, vU, vU] [] h = (if 1 < x3 then some (none, h) else (cI (Run d 80 0 [.inl (h 91 1), .inl (h 91 2), .inl x3] [] h) fun a3_ h2_ => Run (d + 1) 126 69 [.inr (.inr (.inl 8)), .inr (.inr (.inl 12)), .inl x0, .inl x1, .inl x2, .inl x3, .inl a3_, .inl 1, vU, vU] [] h2_)) := by
  refine (R_iload zf126_41 rfl rfl).trans ?_
  refine (R_iconst zf126_43 zw_1 rfl).trans ?_
  refine (R_icmp_gt (t := 168) zf126_44 rfl rfl).trans ?_
  refine ite_congr rfl (fun c1_ => ?_) (fun c1_ => ?_)
  · exact R_return zf126_168 zr_126
  · refine (R_aload_n zf126_47 rfl zlt_12 rfl).trans ?_
    refine (R_getR zf126_48 zo_126 zfl_0_66 zk1_12 zft_9_0 zmr_12_0 rfl).trans ?_
    refine (R_iconst zf126_51 zw_1 rfl).trans ?_
    refine (R_ialdc zf126_52 zk_91 (by decide) rfl rfl).trans ?_
    refine (R_aload_n zf126_53 rfl zlt_12 rfl).trans ?_
    refine (R_getR zf126_54 zo_126 zfl_0_66 zk1_12 zft_9_0 zmr_12_0 rfl).trans ?_
    refine (R_iconst zf126_57 zw_2 rfl).trans ?_
    refine (R_ialdc zf126_58 zk_91 (by decide) rfl rfl).trans ?_
    refine (R_iload zf126_59 rfl rfl).trans ?_
    refine (R_callI zf126_61 zo_126 zsl_0_71 (by rw [zr_80]; rfl) zl_80 (Nat.le_of_ble_eq_true rfl) rfl rfl (Nat.le_of_ble_eq_true rfl) (Nat.le_of_ble_eq_true rfl) (es := [.inl (h 91 1), .inl (h 91 2), .inl x3]) rfl rfl).trans ?_
    refine congrArg (cI _) (funext fun a3_ => funext fun h2_ => ?_)
    refine (R_istore (ls' := [.inr (.inr (.inl 8)), .inr (.inr (.inl 12)), .inl x0, .inl x1, .inl x2, .inl x3, .inl a3_, .inl x5, vU, vU]) zf126_64 (Nat.le_of_ble_eq_true rfl) rfl rfl).trans ?_
    refine (R_iconst zf126_66 zw_1 rfl).trans ?_
    refine (R_istore (ls' := [.inr (.inr (.inl 8)), .inr (.inr (.inl 12)), .inl x0, .inl x1, .inl x2, .inl x3, .inl a3_, .inl 1, vU, vU]) zf126_67 (Nat.le_of_ble_eq_true rfl) rfl rfl).trans ?_
    rfl
-- CannonPost$Flight.reckon(LCannonPost$State;II)V at 69
theorem q126_69_1 (d : Nat) (x0 : Int) (x1 : Int) (x2 : Int) (x3 : Int) (x4 : Int) (x5 : Int) (x6 : Int) (x7 : Int) (h : MH) : Run (d + 1) 126 69 [.inr (.inr (.inl 8)), .inr (.inr (.inl 12)), .inl x0, .inl x1, .inl x2, .inl x3, .inl x4, .inl x5, .inl x6, .inl x7] [] h = (if 20 < x5 then Run (d + 1) 126 41 [.inr (.inr (.inl 8)), .inr (.inr (.inl 12)), .inl x0, .inl x1, .inl x2, .inl (wI (x3 + 1)), .inl x4, .inl x5, .inl x6, .inl x7] [] h else (cI (Run d 81 0 [.inr (.inr (.inl 8)), .inl x0, .inl x1, .inl x5, .inl x4, .inl (h 91 3), vU, vU, vU] [] h) fun a3_ h2_ => (cI (Run d 19 0 [.inr (.inr (.inl 2)), .inl x1] [] h2_) fun a5_ h4_ => (cI (Run d 86 0 [.inl a5_, .inl a3_, .inl x3] [] h4_) fun a7_ h6_ => (cI (Run d 87 0 [.inr (.inr (.inl 2)), .inl a7_, vU, vU, vU] [] h6_) fun a9_ h8_ => (if a9_ = (-1) then Run (d + 1) 126 69 [.inr (.inr (.inl 8)), .inr (.inr (.inl 12)), .inl x0, .inl x1, .inl x2, .inl x3, .inl x4, .inl (wI (x5 + 1)), .inl a3_, .inl a9_] [] h8_ else (if a9_ = x1 then Run (d + 1) 126 69 [.inr (.inr (.inl 8)), .inr (.inr (.inl 12)), .inl x0, .inl x1, .inl x2, .inl x3, .inl x4, .inl (wI (x5 + 1)), .inl a3_, .inl a9_] [] h8_ else (if 0 ≤ (wI (x2 + a9_)) ∧ (wI (x2 + a9_)) < 320 then (if ¬ (h8_ 38 (wI (x2 + a9_)).toNat) = (-1) then Run (d + 1) 126 69 [.inr (.inr (.inl 8)), .inr (.inr (.inl 12)), .inl x0, .inl x1, .inl x2, .inl x3, .inl x4, .inl (wI (x5 + 1)), .inl a3_, .inl a9_] [] h8_ else (if 0 ≤ (wI (x2 + a9_)) ∧ (wI (x2 + a9_)) < 320 then Run (d + 1) 126 69 [.inr (.inr (.inl 8)), .inr (.inr (.inl 12)), .inl x0, .inl x1, .inl x2, .inl x3, .inl x4, .inl (wI (x5 + 1)), .inl a3_, .inl a9_] [] (up h8_ 38 (wI (x2 + a9_)).toNat x5) else none)) else none)))))))) := by
  refine (R_iload zf126_69 rfl rfl).trans ?_
  refine (R_bipush zf126_71 zb_20 rfl).trans ?_
  refine (R_icmp_gt (t := 162) zf126_73 rfl rfl).trans ?_
  refine ite_congr rfl (fun c1_ => ?_) (fun c1_ => ?_)
  · refine (R_iinc (ls' := [.inr (.inr (.inl 8)), .inr (.inr (.inl 12)), .inl x0, .inl x1, .inl x2, .inl (wI (x3 + 1)), .inl x4, .inl x5, .inl x6, .inl x7]) zf126_162 rfl rfl rfl).trans ?_
    refine (R_goto (t := 41) zf126_165 rfl).trans ?_
    rfl
  · refine (R_aload_n zf126_76 rfl zlt_8 rfl).trans ?_
    refine (R_iload_n zf126_77 rfl rfl).trans ?_
    refine (R_iload_n zf126_78 rfl rfl).trans ?_
    refine (R_iload zf126_79 rfl rfl).trans ?_
    refine (R_iload zf126_81 rfl rfl).trans ?_
    refine (R_aload_n zf126_83 rfl zlt_12 rfl).trans ?_
    refine (R_getR zf126_84 zo_126 zfl_0_66 zk1_12 zft_9_0 zmr_12_0 rfl).trans ?_
    refine (R_iconst zf126_87 zw_3 rfl).trans ?_
    refine (R_ialdc zf126_88 zk_91 (by decide) rfl rfl).trans ?_
    refine (R_vcallI zf126_89 zo_126 zvl_0_75 (by rw [zr_81]; rfl) zl_81 (Nat.le_of_ble_eq_true rfl) rfl rfl (Nat.le_of_ble_eq_true rfl) (Nat.le_of_ble_eq_true rfl) (es := [.inr (.inr (.inl 8)), .inl x0, .inl x1, .inl x5, .inl x4, .inl (h 91 3), vU, vU, vU]) rfl rfl zk1_8 zo_81).trans ?_
    refine congrArg (cI _) (funext fun a3_ => funext fun h2_ => ?_)
    refine (R_istore (ls' := [.inr (.inr (.inl 8)), .inr (.inr (.inl 12)), .inl x0, .inl x1, .inl x2, .inl x3, .inl x4, .inl x5, .inl a3_, .inl x7]) zf126_92 (Nat.le_of_ble_eq_true rfl) rfl rfl).trans ?_
    refine (R_aload_n zf126_94 rfl zlt_8 rfl).trans ?_
    refine (R_getR zf126_95 zo_126 zfl_0_20 zk1_8 zft_0_0 zmr_8_0 rfl).trans ?_
    refine (R_aload_n zf126_98 rfl zlt_8 rfl).trans ?_
    refine (R_getR zf126_99 zo_126 zfl_0_20 zk1_8 zft_0_0 zmr_8_0 rfl).trans ?_
    refine (R_iload_n zf126_102 rfl rfl).trans ?_
    refine (R_vcallI zf126_103 zo_126 zvl_0_79 (by rw [zr_19]; rfl) zl_19 (Nat.le_of_ble_eq_true rfl) rfl rfl (Nat.le_of_ble_eq_true rfl) (Nat.le_of_ble_eq_true rfl) (es := [.inr (.inr (.inl 2)), .inl x1]) rfl rfl zk1_2 zo_19).trans ?_
    refine congrArg (cI _) (funext fun a5_ => funext fun h4_ => ?_)
    refine (R_iload zf126_106 rfl rfl).trans ?_
    refine (R_iload zf126_108 rfl rfl).trans ?_
    refine (R_callI zf126_110 zo_126 zsl_0_82 (by rw [zr_86]; rfl) zl_86 (Nat.le_of_ble_eq_true rfl) rfl rfl (Nat.le_of_ble_eq_true rfl) (Nat.le_of_ble_eq_true rfl) (es := [.inl a5_, .inl a3_, .inl x3]) rfl rfl).trans ?_
    refine congrArg (cI _) (funext fun a7_ => funext fun h6_ => ?_)
    refine (R_vcallI zf126_113 zo_126 zvl_0_89 (by rw [zr_87]; rfl) zl_87 (Nat.le_of_ble_eq_true rfl) rfl rfl (Nat.le_of_ble_eq_true rfl) (Nat.le_of_ble_eq_true rfl) (es := [.inr (.inr (.inl 2)), .inl a7_, vU, vU, vU]) rfl rfl zk1_2 zo_87).trans ?_
    refine congrArg (cI _) (funext fun a9_ => funext fun h8_ => ?_)
    refine (R_istore (ls' := [.inr (.inr (.inl 8)), .inr (.inr (.inl 12)), .inl x0, .inl x1, .inl x2, .inl x3, .inl x4, .inl x5, .inl a3_, .inl a9_]) zf126_116 (Nat.le_of_ble_eq_true rfl) rfl rfl).trans ?_
    refine (R_iload zf126_118 rfl rfl).trans ?_
    refine (R_iconst zf126_120 zw_m1 rfl).trans ?_
    refine (R_icmp_eq (t := 156) zf126_121 rfl rfl).trans ?_
    refine ite_congr rfl (fun c10_ => ?_) (fun c10_ => ?_)
    · refine (R_iinc (ls' := [.inr (.inr (.inl 8)), .inr (.inr (.inl 12)), .inl x0, .inl x1, .inl x2, .inl x3, .inl x4, .inl (wI (x5 + 1)), .inl a3_, .inl a9_]) zf126_156 rfl rfl rfl).trans ?_
      refine (R_goto (t := 69) zf126_159 rfl).trans ?_
      rfl
    · refine (R_iload zf126_124 rfl rfl).trans ?_
      refine (R_iload_n zf126_126 rfl rfl).trans ?_
      refine (R_icmp_eq (t := 156) zf126_127 rfl rfl).trans ?_
      refine ite_congr rfl (fun c11_ => ?_) (fun c11_ => ?_)
      · refine (R_iinc (ls' := [.inr (.inr (.inl 8)), .inr (.inr (.inl 12)), .inl x0, .inl x1, .inl x2, .inl x3, .inl x4, .inl (wI (x5 + 1)), .inl a3_, .inl a9_]) zf126_156 rfl rfl rfl).trans ?_
        refine (R_goto (t := 69) zf126_159 rfl).trans ?_
        rfl
      · refine (R_aload_n zf126_130 rfl zlt_8 rfl).trans ?_
        refine (R_getR zf126_131 zo_126 zfl_0_13 zk1_8 zft_0_2 zmr_8_2 rfl).trans ?_
        refine (R_iload zf126_134 rfl rfl).trans ?_
        refine (R_iload zf126_136 rfl rfl).trans ?_
        refine (R_iadd zf126_138 rfl).trans ?_
        refine (R_iald zf126_139 zk_38 rfl).trans ?_
        refine ite_congr rfl (fun c12_ => ?_) (fun _ => rfl)
        refine (R_iconst zf126_140 zw_m1 rfl).trans ?_
        refine (R_icmp_ne (t := 156) zf126_141 rfl rfl).trans ?_
        refine ite_congr rfl (fun c13_ => ?_) (fun c13_ => ?_)
        · refine (R_iinc (ls' := [.inr (.inr (.inl 8)), .inr (.inr (.inl 12)), .inl x0, .inl x1, .inl x2, .inl x3, .inl x4, .inl (wI (x5 + 1)), .inl a3_, .inl a9_]) zf126_156 rfl rfl rfl).trans ?_
          refine (R_goto (t := 69) zf126_159 rfl).trans ?_
          rfl
        · refine (R_aload_n zf126_144 rfl zlt_8 rfl).trans ?_
          refine (R_getR zf126_145 zo_126 zfl_0_13 zk1_8 zft_0_2 zmr_8_2 rfl).trans ?_
          refine (R_iload zf126_148 rfl rfl).trans ?_
          refine (R_iload zf126_150 rfl rfl).trans ?_
          refine (R_iadd zf126_152 rfl).trans ?_
          refine (R_iload zf126_153 rfl rfl).trans ?_
          refine (R_iast zf126_155 zk_38 rfl).trans ?_
          refine ite_congr rfl (fun c14_ => ?_) (fun _ => rfl)
          refine (R_iinc (ls' := [.inr (.inr (.inl 8)), .inr (.inr (.inl 12)), .inl x0, .inl x1, .inl x2, .inl x3, .inl x4, .inl (wI (x5 + 1)), .inl a3_, .inl a9_]) zf126_156 rfl rfl rfl).trans ?_
          refine (R_goto (t := 69) zf126_159 rfl).trans ?_
          rfl
-- CannonPost$Paths.trace(LCannonPost$State;II)V at 32
theorem q128_32_2 (d : Nat) (x0 : Int) (x1 : Int) (x2 : Int) (x3 : Int) (x4 : Int) (h : MH) : Run (d + 1) 128 32 [.inr (.inr (.inl 9)), .inr (.inr (.inl 12)), .inl x0, .inl x1, .inl x2, .inl x3, .inl x4, vU] [] h = (if (h 2 3) ≤ x2 then some (none, h) else Run (d + 1) 128 47 [.inr (.inr (.inl 9)), .inr (.inr (.inl 12)), .inl x0, .inl x1, .inl x2, .inl 0, .inl x4, vU] [] h) := by
  refine (R_iload zf128_32 rfl rfl).trans ?_
  refine (R_aload_n zf128_34 rfl zlt_9 rfl).trans ?_
  refine (R_getR zf128_35 zo_128 zfl_7_29 zk1_9 zft_7_5 zmr_9_5 rfl).trans ?_
  refine (R_getI zf128_38 zo_128 zfl_7_43 zk1_2 zft_5_3 rfl).trans ?_
  refine (R_icmp_ge (t := 185) zf128_41 rfl rfl).trans ?_
  refine ite_congr rfl (fun c1_ => ?_) (fun c1_ => ?_)
  · exact R_return zf128_185 zr_128
  · refine (R_iconst zf128_44 zw_0 rfl).trans ?_
    refine (R_istore (ls' := [.inr (.inr (.inl 9)), .inr (.inr (.inl 12)), .inl x0, .inl x1, .inl x2, .inl 0, .inl x4, vU]) zf128_45 (Nat.le_of_ble_eq_true rfl) rfl rfl).trans ?_
    rfl
-- CannonPost$Paths.trace(LCannonPost$State;II)V at 128
theorem q128_128 (d : Nat) (x0 : Int) (x1 : Int) (x2 : Int) (x3 : Int) (x4 : Int) (y5 : Int) (h : MH) : Run (d + 1) 128 128 [.inr (.inr (.inl 9)), .inr (.inr (.inl 12)), .inl x0, .inl x1, .inl x2, .inl x3, .inl x4, vU] [.inl y5] h = (if y5 = (-1) then Run (d + 1) 128 62 [.inr (.inr (.inl 9)), .inr (.inr (.inl 12)), .inl x0, .inl x1, .inl x2, .inl x3, .inl (wI (x4 + 1)), .inl y5] [] h else (if 0 ≤ x4 ∧ x4 < 8 then (if 0 ≤ x4 ∧ x4 < 8 then (cV (Run d 129 0 [.inr (.inr (.inl 9)), .inl x3, .inl x2, .inl (wI ((h 41 x4.toNat) + y5)), .inl (wI ((wI ((h 42 x4.toNat) * 10)) + x3)), vU] [] h) fun h4_ => Run (d + 1) 128 62 [.inr (.inr (.inl 9)), .inr (.inr (.inl 12)), .inl x0, .inl x1, .inl x2, .inl x3, .inl (wI (x4 + 1)), .inl y5] [] h4_) else none) else none)) := by
  refine (R_istore (ls' := [.inr (.inr (.inl 9)), .inr (.inr (.inl 12)), .inl x0, .inl x1, .inl x2, .inl x3, .inl x4, .inl y5]) zf128_128 (Nat.le_of_ble_eq_true rfl) rfl rfl).trans ?_
  refine (R_iload zf128_130 rfl rfl).trans ?_
  refine (R_iconst zf128_132 zw_m1 rfl).trans ?_
  refine (R_icmp_eq (t := 167) zf128_133 rfl rfl).trans ?_
  refine ite_congr rfl (fun c1_ => ?_) (fun c1_ => ?_)
  · refine (R_iinc (ls' := [.inr (.inr (.inl 9)), .inr (.inr (.inl 12)), .inl x0, .inl x1, .inl x2, .inl x3, .inl (wI (x4 + 1)), .inl y5]) zf128_167 rfl rfl rfl).trans ?_
    refine (R_goto (t := 62) zf128_170 rfl).trans ?_
    rfl
  · refine (R_aload_n zf128_136 rfl zlt_9 rfl).trans ?_
    refine (R_iload zf128_137 rfl rfl).trans ?_
    refine (R_iload zf128_139 rfl rfl).trans ?_
    refine (R_aload_n zf128_141 rfl zlt_9 rfl).trans ?_
    refine (R_getR zf128_142 zo_128 zfl_7_17 zk1_9 zft_7_1 zmr_9_1 rfl).trans ?_
    refine (R_iload zf128_145 rfl rfl).trans ?_
    refine (R_iald zf128_147 zk_41 rfl).trans ?_
    refine ite_congr rfl (fun c2_ => ?_) (fun _ => rfl)
    refine (R_iload zf128_148 rfl rfl).trans ?_
    refine (R_iadd zf128_150 rfl).trans ?_
    refine (R_aload_n zf128_151 rfl zlt_9 rfl).trans ?_
    refine (R_getR zf128_152 zo_128 zfl_7_20 zk1_9 zft_7_2 zmr_9_2 rfl).trans ?_
    refine (R_iload zf128_155 rfl rfl).trans ?_
    refine (R_iald zf128_157 zk_42 rfl).trans ?_
    refine ite_congr rfl (fun c3_ => ?_) (fun _ => rfl)
    refine (R_bipush zf128_158 zb_10 rfl).trans ?_
    refine (R_imul zf128_160 rfl).trans ?_
    refine (R_iload zf128_161 rfl rfl).trans ?_
    refine (R_iadd zf128_163 rfl).trans ?_
    refine (R_vcallV zf128_164 zo_128 zvl_7_53 zr_129 zl_129 (Nat.le_of_ble_eq_true rfl) rfl rfl (Nat.le_of_ble_eq_true rfl) (Nat.le_of_ble_eq_true rfl) (es := [.inr (.inr (.inl 9)), .inl x3, .inl x2, .inl (wI ((h 41 x4.toNat) + y5)), .inl (wI ((wI ((h 42 x4.toNat) * 10)) + x3)), vU]) rfl rfl zk1_9 zo_129).trans ?_
    refine congrArg (cV _) (funext fun h4_ => ?_)
    refine (R_iinc (ls' := [.inr (.inr (.inl 9)), .inr (.inr (.inl 12)), .inl x0, .inl x1, .inl x2, .inl x3, .inl (wI (x4 + 1)), .inl y5]) zf128_167 rfl rfl rfl).trans ?_
    refine (R_goto (t := 62) zf128_170 rfl).trans ?_
    rfl
-- CannonPost$Paths.firstShot(LCannonPost$State;III)I at 37
theorem q133_37_1 (d : Nat) (x0 : Int) (x1 : Int) (x2 : Int) (x3 : Int) (x4 : Int) (x5 : Int) (x6 : Int) (h : MH) : Run (d + 1) 133 37 [.inr (.inr (.inl 9)), .inr (.inr (.inl 12)), .inl x0, .inl x1, .inl x2, .inl x3, .inl x4, .inl x5, .inl x6] [] h = (if (h 2 4) ≤ x5 then some (some (.inl (-1)), h) else Run (d + 1) 133 53 [.inr (.inr (.inl 9)), .inr (.inr (.inl 12)), .inl x0, .inl x1, .inl x2, .inl x3, .inl x4, .inl x5, .inl x3] [] h) := by
  refine (R_iload zf133_37 rfl rfl).trans ?_
  refine (R_aload_n zf133_39 rfl zlt_9 rfl).trans ?_
  refine (R_getR zf133_40 zo_133 zfl_7_29 zk1_9 zft_7_5 zmr_9_5 rfl).trans ?_
  refine (R_getI zf133_43 zo_133 zfl_7_71 zk1_2 zft_5_4 rfl).trans ?_
  refine (R_icmp_ge (t := 137) zf133_46 rfl rfl).trans ?_
  refine ite_congr rfl (fun c1_ => ?_) (fun c1_ => ?_)
  · refine (R_iconst zf133_137 zw_m1 rfl).trans ?_
    exact R_ireturn_i zf133_138 zr_133
  · refine (R_iload zf133_49 rfl rfl).trans ?_
    refine (R_istore (ls' := [.inr (.inr (.inl 9)), .inr (.inr (.inl 12)), .inl x0, .inl x1, .inl x2, .inl x3, .inl x4, .inl x5, .inl x3]) zf133_51 (Nat.le_of_ble_eq_true rfl) rfl rfl).trans ?_
    rfl
-- CannonPost$Paths.leads(LCannonPost$State;IIII)Z at 0
theorem q134_0 (d : Nat) (x0 : Int) (x1 : Int) (x2 : Int) (x3 : Int) (h : MH) : Run (d + 1) 134 0 [.inr (.inr (.inl 9)), .inr (.inr (.inl 12)), .inl x0, .inl x1, .inl x2, .inl x3, vU, vU, vU, vU, vU] [] h = (if 0 ≤ (wI (x0.tdiv 10)) ∧ (wI (x0.tdiv 10)) < 5 then (if (iAnd (iShr x2 (h 44 (wI (x0.tdiv 10)).toNat)) 1) = 0 then Run (d + 1) 134 43 [.inr (.inr (.inl 9)), .inr (.inr (.inl 12)), .inl x0, .inl x1, .inl x2, .inl x3, .inl (wI (x0.tdiv 10)), .inl (x0.tmod 10), .inl (h 44 (wI (x0.tdiv 10)).toNat), vU, vU] [.inl x2] h else Run (d + 1) 134 43 [.inr (.inr (.inl 9)), .inr (.inr (.inl 12)), .inl x0, .inl x1, .inl x2, .inl x3, .inl (wI (x0.tdiv 10)), .inl (x0.tmod 10), .inl (h 44 (wI (x0.tdiv 10)).toNat), vU, vU] [.inl (iOr x2 (iShl 1 (x0.tmod 10)))] h) else none) := by
  refine (R_iload_n zf134_0 rfl rfl).trans ?_
  refine (R_bipush zf134_1 zb_10 rfl).trans ?_
  refine (R_idiv zf134_3 (by decide) rfl).trans ?_
  refine (R_istore (ls' := [.inr (.inr (.inl 9)), .inr (.inr (.inl 12)), .inl x0, .inl x1, .inl x2, .inl x3, .inl (wI (x0.tdiv 10)), vU, vU, vU, vU]) zf134_4 (Nat.le_of_ble_eq_true rfl) rfl rfl).trans ?_
  refine (R_iload_n zf134_6 rfl rfl).trans ?_
  refine (R_bipush zf134_7 zb_10 rfl).trans ?_
  refine (R_irem zf134_9 (by decide) rfl).trans ?_
  refine (R_istore (ls' := [.inr (.inr (.inl 9)), .inr (.inr (.inl 12)), .inl x0, .inl x1, .inl x2, .inl x3, .inl (wI (x0.tdiv 10)), .inl (x0.tmod 10), vU, vU, vU]) zf134_10 (Nat.le_of_ble_eq_true rfl) rfl rfl).trans ?_
  refine (R_aload_n zf134_12 rfl zlt_9 rfl).trans ?_
  refine (R_getR zf134_13 zo_134 zfl_7_26 zk1_9 zft_7_4 zmr_9_4 rfl).trans ?_
  refine (R_iload zf134_16 rfl rfl).trans ?_
  refine (R_iald zf134_18 zk_44 rfl).trans ?_
  refine ite_congr rfl (fun c1_ => ?_) (fun _ => rfl)
  refine (R_istore (ls' := [.inr (.inr (.inl 9)), .inr (.inr (.inl 12)), .inl x0, .inl x1, .inl x2, .inl x3, .inl (wI (x0.tdiv 10)), .inl (x0.tmod 10), .inl (h 44 (wI (x0.tdiv 10)).toNat), vU, vU]) zf134_19 (Nat.le_of_ble_eq_true rfl) rfl rfl).trans ?_
  refine (R_iload zf134_21 rfl rfl).trans ?_
  refine (R_iload zf134_23 rfl rfl).trans ?_
  refine (R_ishr zf134_25 rfl).trans ?_
  refine (R_iconst zf134_26 zw_1 rfl).trans ?_
  refine (R_iand zf134_27 rfl).trans ?_
  refine (R_if_eq (t := 41) zf134_28 rfl rfl).trans ?_
  refine ite_congr rfl (fun c2_ => ?_) (fun c2_ => ?_)
  · refine (R_iload zf134_41 rfl rfl).trans ?_
    rfl
  · refine (R_iload zf134_31 rfl rfl).trans ?_
    refine (R_iconst zf134_33 zw_1 rfl).trans ?_
    refine (R_iload zf134_34 rfl rfl).trans ?_
    refine (R_ishl zf134_36 rfl).trans ?_
    refine (R_ior zf134_37 rfl).trans ?_
    refine (R_goto (t := 43) zf134_38 rfl).trans ?_
    rfl
-- CannonPost$Paths.link(LCannonPost$State;)V at 2
theorem q139_2_2 (d : Nat) (x0 : Int) (x1 : Int) (x2 : Int) (h : MH) : Run (d + 1) 139 2 [.inr (.inr (.inl 9)), .inr (.inr (.inl 12)), .inl x0, .inl x1, .inl x2] [] h = (if (h 2 3) ≤ x0 then some (none, h) else (if 0 ≤ x0 ∧ x0 < 8 then Run (d + 1) 139 22 [.inr (.inr (.inl 9)), .inr (.inr (.inl 12)), .inl x0, .inl 0, .inl x2] [] (up h 43 x0.toNat 0) else none)) := by
  refine (R_iload_n zf139_2 rfl rfl).trans ?_
  refine (R_aload_n zf139_3 rfl zlt_9 rfl).trans ?_
  refine (R_getR zf139_4 zo_139 zfl_7_29 zk1_9 zft_7_5 zmr_9_5 rfl).trans ?_
  refine (R_getI zf139_7 zo_139 zfl_7_43 zk1_2 zft_5_3 rfl).trans ?_
  refine (R_icmp_ge (t := 99) zf139_10 rfl rfl).trans ?_
  refine ite_congr rfl (fun c1_ => ?_) (fun c1_ => ?_)
  · exact R_return zf139_99 zr_139
  · refine (R_aload_n zf139_13 rfl zlt_9 rfl).trans ?_
    refine (R_getR zf139_14 zo_139 zfl_7_23 zk1_9 zft_7_3 zmr_9_3 rfl).trans ?_
    refine (R_iload_n zf139_17 rfl rfl).trans ?_
    refine (R_iconst zf139_18 zw_0 rfl).trans ?_
    refine (R_iast zf139_19 zk_43 rfl).trans ?_
    refine ite_congr rfl (fun c2_ => ?_) (fun _ => rfl)
    refine (R_iconst zf139_20 zw_0 rfl).trans ?_
    refine (R_istore_n (ls' := [.inr (.inr (.inl 9)), .inr (.inr (.inl 12)), .inl x0, .inl 0, .inl x2]) zf139_21 (Nat.le_of_ble_eq_true rfl) rfl rfl).trans ?_
    rfl
-- java/util/Arrays.fill([II)V at 5
theorem q48_5_3 (d : Nat) (x0 : Int) (x1 : Int) (x2 : Int) (h : MH) : Run d 48 5 [.inr (.inr (.inl 47)), .inl x0, .inl x1, .inl x2] [] h = (if x2 ≤ x1 then some (none, h) else (if 0 ≤ x1 ∧ x1 < 61 then Run d 48 5 [.inr (.inr (.inl 47)), .inl x0, .inl (wI (x1 + 1)), .inl x2] [] (up h 47 x1.toNat x0) else none)) := by
  refine (R_iload_n zf48_5 rfl rfl).trans ?_
  refine (R_iload_n zf48_6 rfl rfl).trans ?_
  refine (R_icmp_ge (t := 20) zf48_7 rfl rfl).trans ?_
  refine ite_congr rfl (fun c1_ => ?_) (fun c1_ => ?_)
  · exact R_return zf48_20 zr_48
  · refine (R_aload_n zf48_10 rfl zlt_47 rfl).trans ?_
    refine (R_iload_n zf48_11 rfl rfl).trans ?_
    refine (R_iload_n zf48_12 rfl rfl).trans ?_
    refine (R_iast zf48_13 zk_47 rfl).trans ?_
    refine ite_congr rfl (fun c2_ => ?_) (fun _ => rfl)
    refine (R_iinc (ls' := [.inr (.inr (.inl 47)), .inl x0, .inl (wI (x1 + 1)), .inl x2]) zf48_14 rfl rfl rfl).trans ?_
    refine (R_goto (t := 5) zf48_17 rfl).trans ?_
    rfl
-- CannonPost$Guesses.mostTogether(IIII)I at 14
theorem q155_14_1 (d : Nat) (x0 : Int) (x1 : Int) (x2 : Int) (x3 : Int) (x4 : Int) (x5 : Int) (x6 : Int) (h : MH) : Run (d + 1) 155 14 [.inr (.inr (.inl 10)), .inl x0, .inl x1, .inl x2, .inl x3, .inl x4, .inl x5, .inl x6] [] h = (if (h 10 1) ≤ x5 then some (some (.inl x4), h) else (if 0 ≤ x5 ∧ x5 < 20 then (cI (Run d 152 0 [.inr (.inr (.inl 10)), .inl (h 45 x5.toNat), .inl x0, .inl x1, .inl x2, .inl x3] [] h) fun a4_ h3_ => (if 0 ≤ a4_ ∧ a4_ < 61 then (if 0 ≤ a4_ ∧ a4_ < 61 then (if 0 ≤ a4_ ∧ a4_ < 61 then Run (d + 1) 155 14 [.inr (.inr (.inl 10)), .inl x0, .inl x1, .inl x2, .inl x3, .inl (mx x4 ((up h3_ 47 a4_.toNat (wI ((h3_ 47 a4_.toNat) + 1))) 47 a4_.toNat)), .inl (wI (x5 + 1)), .inl a4_] [] (up h3_ 47 a4_.toNat (wI ((h3_ 47 a4_.toNat) + 1))) else none) else none) else none)) else none)) := by
  refine (R_iload zf155_14 rfl rfl).trans ?_
  refine (R_aload_n zf155_16 rfl zlt_10 rfl).trans ?_
  refine (R_getI zf155_17 zo_155 zfl_1_45 zk1_10 zft_1_1 rfl).trans ?_
  refine (R_icmp_ge (t := 72) zf155_20 rfl rfl).trans ?_
  refine ite_congr rfl (fun c1_ => ?_) (fun c1_ => ?_)
  · refine (R_iload zf155_72 rfl rfl).trans ?_
    exact R_ireturn_i zf155_74 zr_155
  · refine (R_aload_n zf155_23 rfl zlt_10 rfl).trans ?_
    refine (R_aload_n zf155_24 rfl zlt_10 rfl).trans ?_
    refine (R_getR zf155_25 zo_155 zfl_1_11 zk1_10 zft_1_0 zmr_10_0 rfl).trans ?_
    refine (R_iload zf155_28 rfl rfl).trans ?_
    refine (R_iald zf155_30 zk_45 rfl).trans ?_
    refine ite_congr rfl (fun c2_ => ?_) (fun _ => rfl)
    refine (R_iload_n zf155_31 rfl rfl).trans ?_
    refine (R_iload_n zf155_32 rfl rfl).trans ?_
    refine (R_iload_n zf155_33 rfl rfl).trans ?_
    refine (R_iload zf155_34 rfl rfl).trans ?_
    refine (R_vcallI zf155_36 zo_155 zvl_1_52 (by rw [zr_152]; rfl) zl_152 (Nat.le_of_ble_eq_true rfl) rfl rfl (Nat.le_of_ble_eq_true rfl) (Nat.le_of_ble_eq_true rfl) (es := [.inr (.inr (.inl 10)), .inl (h 45 x5.toNat), .inl x0, .inl x1, .inl x2, .inl x3]) rfl rfl zk1_10 zo_152).trans ?_
    refine congrArg (cI _) (funext fun a4_ => funext fun h3_ => ?_)
    refine (R_istore (ls' := [.inr (.inr (.inl 10)), .inl x0, .inl x1, .inl x2, .inl x3, .inl x4, .inl x5, .inl a4_]) zf155_39 (Nat.le_of_ble_eq_true rfl) rfl rfl).trans ?_
    refine (R_aload_n zf155_41 rfl zlt_10 rfl).trans ?_
    refine (R_getR zf155_42 zo_155 zfl_1_20 zk1_10 zft_1_5 zmr_10_5 rfl).trans ?_
    refine (R_iload zf155_45 rfl rfl).trans ?_
    refine (R_dup2 zf155_47 rfl rfl rfl).trans ?_
    refine (R_iald zf155_48 zk_47 rfl).trans ?_
    refine ite_congr rfl (fun c5_ => ?_) (fun _ => rfl)
    refine (R_iconst zf155_49 zw_1 rfl).trans ?_
    refine (R_iadd zf155_50 rfl).trans ?_
    refine (R_iast zf155_51 zk_47 rfl).trans ?_
    refine ite_congr rfl (fun c6_ => ?_) (fun _ => rfl)
    refine (R_iload zf155_52 rfl rfl).trans ?_
    refine (R_aload_n zf155_54 rfl zlt_10 rfl).trans ?_
    refine (R_getR zf155_55 zo_155 zfl_1_20 zk1_10 zft_1_5 zmr_10_5 rfl).trans ?_
    refine (R_iload zf155_58 rfl rfl).trans ?_
    refine (R_iald zf155_60 zk_47 rfl).trans ?_
    refine ite_congr rfl (fun c7_ => ?_) (fun _ => rfl)
    refine (R_mmax zf155_61 zo_155 zsl_1_82 zml_1_82 zna_1_82 (Nat.le_of_ble_eq_true rfl) rfl).trans ?_
    refine (R_istore (ls' := [.inr (.inr (.inl 10)), .inl x0, .inl x1, .inl x2, .inl x3, .inl (mx x4 ((up h3_ 47 a4_.toNat (wI ((h3_ 47 a4_.toNat) + 1))) 47 a4_.toNat)), .inl x5, .inl a4_]) zf155_64 (Nat.le_of_ble_eq_true rfl) rfl rfl).trans ?_
    refine (R_iinc (ls' := [.inr (.inr (.inl 10)), .inl x0, .inl x1, .inl x2, .inl x3, .inl (mx x4 ((up h3_ 47 a4_.toNat (wI ((h3_ 47 a4_.toNat) + 1))) 47 a4_.toNat)), .inl (wI (x5 + 1)), .inl a4_]) zf155_66 rfl rfl rfl).trans ?_
    refine (R_goto (t := 14) zf155_69 rfl).trans ?_
    rfl
-- CannonPost$Guesses.product(I)J at 5
theorem q161_5_1 (d : Nat) (x0 : Int) (x1 : Int) (x2 : Int) (x3 : Int) (h : MH) : Run d 161 5 [.inr (.inr (.inl 10)), .inl x0, .inr (.inl x1), vU, .inl x2, .inl x3] [] h = (if (h 10 3) ≤ x2 then some (some (.inr (.inl x1)), h) else (if 0 ≤ x2 ∧ x2 < 12 then (if ¬ (h 48 x2.toNat) = x0 then Run d 161 30 [.inr (.inr (.inl 10)), .inl x0, .inr (.inl x1), vU, .inl x2, .inl x3] [.inl 0] h else Run d 161 30 [.inr (.inr (.inl 10)), .inl x0, .inr (.inl x1), vU, .inl x2, .inl x3] [.inl 1] h) else none)) := by
  refine (R_iload zf161_5 rfl rfl).trans ?_
  refine (R_aload_n zf161_7 rfl zlt_10 rfl).trans ?_
  refine (R_getI zf161_8 zo_161 zfl_1_42 zk1_10 zft_1_3 rfl).trans ?_
  refine (R_icmp_ge (t := 85) zf161_11 rfl rfl).trans ?_
  refine ite_congr rfl (fun c1_ => ?_) (fun c1_ => ?_)
  · refine (R_lload_n zf161_85 rfl rfl).trans ?_
    exact R_lreturn zf161_86 zr_161
  · refine (R_aload_n zf161_14 rfl zlt_10 rfl).trans ?_
    refine (R_getR zf161_15 zo_161 zfl_1_23 zk1_10 zft_1_6 zmr_10_6 rfl).trans ?_
    refine (R_iload zf161_18 rfl rfl).trans ?_
    refine (R_iald zf161_20 zk_48 rfl).trans ?_
    refine ite_congr rfl (fun c2_ => ?_) (fun _ => rfl)
    refine (R_iload_n zf161_21 rfl rfl).trans ?_
    refine (R_icmp_ne (t := 29) zf161_22 rfl rfl).trans ?_
    refine ite_congr rfl (fun c3_ => ?_) (fun c3_ => ?_)
    · refine (R_iconst zf161_29 zw_0 rfl).trans ?_
      rfl
    · refine (R_iconst zf161_25 zw_1 rfl).trans ?_
      refine (R_goto (t := 30) zf161_26 rfl).trans ?_
      rfl
-- CannonPostModel.spotOf(Ljava/lang/String;I)I at 2
theorem q191_2 (d : Nat) (x0 : Int) (x1 : Int) (h : MH) : Run (d + 1) 191 2 [.inr (.inr (.inl 130)), .inl x0, .inl x1] [] h = (cI (Run d 28 0 [.inr (.inr (.inl 130))] [] h) fun a2_ h1_ => (if a2_ ≤ x1 then some (some (.inl (-1)), h1_) else (cI (Run d 12 0 [.inr (.inr (.inl 130)), .inl x1] [] h1_) fun a5_ h4_ => (if ¬ a5_ = x0 then Run (d + 1) 191 2 [.inr (.inr (.inl 130)), .inl x0, .inl (wI (x1 + 1))] [] h4_ else some (some (.inl x1), h4_))))) := by
  refine (R_iload_n zf191_2 rfl rfl).trans ?_
  refine (R_aload_n zf191_3 rfl zlt_130 rfl).trans ?_
  refine (R_vcallI zf191_4 zo_191 zvl_12_99 (by rw [zr_28]; rfl) zl_28 (Nat.le_of_ble_eq_true rfl) rfl rfl (Nat.le_of_ble_eq_true rfl) (Nat.le_of_ble_eq_true rfl) (es := [.inr (.inr (.inl 130))]) rfl rfl zk1_130 zo_28).trans ?_
  refine congrArg (cI _) (funext fun a2_ => funext fun h1_ => ?_)
  refine (R_icmp_ge (t := 27) zf191_7 rfl rfl).trans ?_
  refine ite_congr rfl (fun c3_ => ?_) (fun c3_ => ?_)
  · refine (R_iconst zf191_27 zw_m1 rfl).trans ?_
    exact R_ireturn_i zf191_28 zr_191
  · refine (R_aload_n zf191_10 rfl zlt_130 rfl).trans ?_
    refine (R_iload_n zf191_11 rfl rfl).trans ?_
    refine (R_vcallI zf191_12 zo_191 zvl_12_105 (by rw [zr_12]; rfl) zl_12 (Nat.le_of_ble_eq_true rfl) rfl rfl (Nat.le_of_ble_eq_true rfl) (Nat.le_of_ble_eq_true rfl) (es := [.inr (.inr (.inl 130)), .inl x1]) rfl rfl zk1_130 zo_12).trans ?_
    refine congrArg (cI _) (funext fun a5_ => funext fun h4_ => ?_)
    refine (R_iload_n zf191_15 rfl rfl).trans ?_
    refine (R_icmp_ne (t := 21) zf191_16 rfl rfl).trans ?_
    refine ite_congr rfl (fun c6_ => ?_) (fun c6_ => ?_)
    · refine (R_iinc (ls' := [.inr (.inr (.inl 130)), .inl x0, .inl (wI (x1 + 1))]) zf191_21 rfl rfl rfl).trans ?_
      refine (R_goto (t := 2) zf191_24 rfl).trans ?_
      rfl
    · refine (R_iload_n zf191_19 rfl rfl).trans ?_
      exact R_ireturn_i zf191_20 zr_191
-- CannonPostModel.isDigit()Z at 0
theorem q196_0 (d : Nat) (h : MH) : Run d 196 0 [.inr (.inr (.inl 97))] [] h = (if (h 97 9) ≤ (h 97 10) then some (some (.inl 0), h) else (if h 97 5 = 98 then (if 0 ≤ (wI ((h 97 8) + (h 97 10))) ∧ (wI ((h 97 8) + (h 97 10))) < 240 then (if (h 98 (wI ((h 97 8) + (h 97 10))).toNat) < 48 then some (some (.inl 0), h) else (if h 97 5 = 98 then (if 0 ≤ (wI ((h 97 8) + (h 97 10))) ∧ (wI ((h 97 8) + (h 97 10))) < 240 then (if 57 < (h 98 (wI ((h 97 8) + (h 97 10))).toNat) then some (some (.inl 0), h) else some (some (.inl 1), h)) else none) else (if h 97 5 = 99 then (if 0 ≤ (wI ((h 97 8) + (h 97 10))) ∧ (wI ((h 97 8) + (h 97 10))) < 960 then (if 57 < (h 99 (wI ((h 97 8) + (h 97 10))).toNat) then some (some (.inl 0), h) else some (some (.inl 1), h)) else none) else Run d 196 31 [.inr (.inr (.inl 97))] [.inr (.inr (.inl 97))] h))) else none) else (if h 97 5 = 99 then (if 0 ≤ (wI ((h 97 8) + (h 97 10))) ∧ (wI ((h 97 8) + (h 97 10))) < 960 then (if (h 99 (wI ((h 97 8) + (h 97 10))).toNat) < 48 then some (some (.inl 0), h) else (if h 97 5 = 98 then (if 0 ≤ (wI ((h 97 8) + (h 97 10))) ∧ (wI ((h 97 8) + (h 97 10))) < 240 then (if 57 < (h 98 (wI ((h 97 8) + (h 97 10))).toNat) then some (some (.inl 0), h) else some (some (.inl 1), h)) else none) else (if h 97 5 = 99 then (if 0 ≤ (wI ((h 97 8) + (h 97 10))) ∧ (wI ((h 97 8) + (h 97 10))) < 960 then (if 57 < (h 99 (wI ((h 97 8) + (h 97 10))).toNat) then some (some (.inl 0), h) else some (some (.inl 1), h)) else none) else Run d 196 31 [.inr (.inr (.inl 97))] [.inr (.inr (.inl 97))] h))) else none) else Run d 196 12 [.inr (.inr (.inl 97))] [.inr (.inr (.inl 97))] h))) := by
  refine (R_aload_n zf196_0 rfl zlt_97 rfl).trans ?_
  refine (R_getI zf196_1 zo_196 zfl_12_119 zk1_97 zft_12_10 rfl).trans ?_
  refine (R_aload_n zf196_4 rfl zlt_97 rfl).trans ?_
  refine (R_getI zf196_5 zo_196 zfl_12_122 zk1_97 zft_12_9 rfl).trans ?_
  refine (R_icmp_ge (t := 53) zf196_8 rfl rfl).trans ?_
  refine ite_congr rfl (fun c1_ => ?_) (fun c1_ => ?_)
  · refine (R_iconst zf196_53 zw_0 rfl).trans ?_
    exact R_ireturn zf196_54 (by rw [zr_196]; rfl)
  · refine (R_aload_n zf196_11 rfl zlt_97 rfl).trans ?_
    refine (switch_if (c := h 97 5 = 98) (fun c2_ => ?_) (fun c2_ => ?_))
    · refine (R_getMc (b := 98) zf196_12 zo_196 zfl_12_23 zk1_97 zft_12_5 c2_ rfl rfl).trans ?_
      refine (R_aload_n zf196_15 rfl zlt_97 rfl).trans ?_
      refine (R_getI zf196_16 zo_196 zfl_12_125 zk1_97 zft_12_8 rfl).trans ?_
      refine (R_aload_n zf196_19 rfl zlt_97 rfl).trans ?_
      refine (R_getI zf196_20 zo_196 zfl_12_119 zk1_97 zft_12_10 rfl).trans ?_
      refine (R_iadd zf196_23 rfl).trans ?_
      refine (R_bald zf196_24 zk_98 rfl).trans ?_
      refine ite_congr rfl (fun c3_ => ?_) (fun _ => rfl)
      refine (R_bipush zf196_25 zb_48 rfl).trans ?_
      refine (R_icmp_lt (t := 53) zf196_27 rfl rfl).trans ?_
      refine ite_congr rfl (fun c4_ => ?_) (fun c4_ => ?_)
      · refine (R_iconst zf196_53 zw_0 rfl).trans ?_
        exact R_ireturn zf196_54 (by rw [zr_196]; rfl)
      · refine (R_aload_n zf196_30 rfl zlt_97 rfl).trans ?_
        refine (switch_if (c := h 97 5 = 98) (fun c5_ => ?_) (fun c5_ => ?_))
        · refine (R_getMc (b := 98) zf196_31 zo_196 zfl_12_23 zk1_97 zft_12_5 c5_ rfl rfl).trans ?_
          refine (R_aload_n zf196_34 rfl zlt_97 rfl).trans ?_
          refine (R_getI zf196_35 zo_196 zfl_12_125 zk1_97 zft_12_8 rfl).trans ?_
          refine (R_aload_n zf196_38 rfl zlt_97 rfl).trans ?_
          refine (R_getI zf196_39 zo_196 zfl_12_119 zk1_97 zft_12_10 rfl).trans ?_
          refine (R_iadd zf196_42 rfl).trans ?_
          refine (R_bald zf196_43 zk_98 rfl).trans ?_
          refine ite_congr rfl (fun c6_ => ?_) (fun _ => rfl)
          refine (R_bipush zf196_44 zb_57 rfl).trans ?_
          refine (R_icmp_gt (t := 53) zf196_46 rfl rfl).trans ?_
          refine ite_congr rfl (fun c7_ => ?_) (fun c7_ => ?_)
          · refine (R_iconst zf196_53 zw_0 rfl).trans ?_
            exact R_ireturn zf196_54 (by rw [zr_196]; rfl)
          · refine (R_iconst zf196_49 zw_1 rfl).trans ?_
            refine (R_goto (t := 54) zf196_50 rfl).trans ?_
            exact R_ireturn zf196_54 (by rw [zr_196]; rfl)
        refine (switch_if (c := h 97 5 = 99) (fun c8_ => ?_) (fun c8_ => ?_))
        · refine (R_getMc (b := 99) zf196_31 zo_196 zfl_12_23 zk1_97 zft_12_5 c8_ rfl rfl).trans ?_
          refine (R_aload_n zf196_34 rfl zlt_97 rfl).trans ?_
          refine (R_getI zf196_35 zo_196 zfl_12_125 zk1_97 zft_12_8 rfl).trans ?_
          refine (R_aload_n zf196_38 rfl zlt_97 rfl).trans ?_
          refine (R_getI zf196_39 zo_196 zfl_12_119 zk1_97 zft_12_10 rfl).trans ?_
          refine (R_iadd zf196_42 rfl).trans ?_
          refine (R_bald zf196_43 zk_99 rfl).trans ?_
          refine ite_congr rfl (fun c9_ => ?_) (fun _ => rfl)
          refine (R_bipush zf196_44 zb_57 rfl).trans ?_
          refine (R_icmp_gt (t := 53) zf196_46 rfl rfl).trans ?_
          refine ite_congr rfl (fun c10_ => ?_) (fun c10_ => ?_)
          · refine (R_iconst zf196_53 zw_0 rfl).trans ?_
            exact R_ireturn zf196_54 (by rw [zr_196]; rfl)
          · refine (R_iconst zf196_49 zw_1 rfl).trans ?_
            refine (R_goto (t := 54) zf196_50 rfl).trans ?_
            exact R_ireturn zf196_54 (by rw [zr_196]; rfl)
        rfl
    refine (switch_if (c := h 97 5 = 99) (fun c11_ => ?_) (fun c11_ => ?_))
    · refine (R_getMc (b := 99) zf196_12 zo_196 zfl_12_23 zk1_97 zft_12_5 c11_ rfl rfl).trans ?_
      refine (R_aload_n zf196_15 rfl zlt_97 rfl).trans ?_
      refine (R_getI zf196_16 zo_196 zfl_12_125 zk1_97 zft_12_8 rfl).trans ?_
      refine (R_aload_n zf196_19 rfl zlt_97 rfl).trans ?_
      refine (R_getI zf196_20 zo_196 zfl_12_119 zk1_97 zft_12_10 rfl).trans ?_
      refine (R_iadd zf196_23 rfl).trans ?_
      refine (R_bald zf196_24 zk_99 rfl).trans ?_
      refine ite_congr rfl (fun c12_ => ?_) (fun _ => rfl)
      refine (R_bipush zf196_25 zb_48 rfl).trans ?_
      refine (R_icmp_lt (t := 53) zf196_27 rfl rfl).trans ?_
      refine ite_congr rfl (fun c13_ => ?_) (fun c13_ => ?_)
      · refine (R_iconst zf196_53 zw_0 rfl).trans ?_
        exact R_ireturn zf196_54 (by rw [zr_196]; rfl)
      · refine (R_aload_n zf196_30 rfl zlt_97 rfl).trans ?_
        refine (switch_if (c := h 97 5 = 98) (fun c14_ => ?_) (fun c14_ => ?_))
        · refine (R_getMc (b := 98) zf196_31 zo_196 zfl_12_23 zk1_97 zft_12_5 c14_ rfl rfl).trans ?_
          refine (R_aload_n zf196_34 rfl zlt_97 rfl).trans ?_
          refine (R_getI zf196_35 zo_196 zfl_12_125 zk1_97 zft_12_8 rfl).trans ?_
          refine (R_aload_n zf196_38 rfl zlt_97 rfl).trans ?_
          refine (R_getI zf196_39 zo_196 zfl_12_119 zk1_97 zft_12_10 rfl).trans ?_
          refine (R_iadd zf196_42 rfl).trans ?_
          refine (R_bald zf196_43 zk_98 rfl).trans ?_
          refine ite_congr rfl (fun c15_ => ?_) (fun _ => rfl)
          refine (R_bipush zf196_44 zb_57 rfl).trans ?_
          refine (R_icmp_gt (t := 53) zf196_46 rfl rfl).trans ?_
          refine ite_congr rfl (fun c16_ => ?_) (fun c16_ => ?_)
          · refine (R_iconst zf196_53 zw_0 rfl).trans ?_
            exact R_ireturn zf196_54 (by rw [zr_196]; rfl)
          · refine (R_iconst zf196_49 zw_1 rfl).trans ?_
            refine (R_goto (t := 54) zf196_50 rfl).trans ?_
            exact R_ireturn zf196_54 (by rw [zr_196]; rfl)
        refine (switch_if (c := h 97 5 = 99) (fun c17_ => ?_) (fun c17_ => ?_))
        · refine (R_getMc (b := 99) zf196_31 zo_196 zfl_12_23 zk1_97 zft_12_5 c17_ rfl rfl).trans ?_
          refine (R_aload_n zf196_34 rfl zlt_97 rfl).trans ?_
          refine (R_getI zf196_35 zo_196 zfl_12_125 zk1_97 zft_12_8 rfl).trans ?_
          refine (R_aload_n zf196_38 rfl zlt_97 rfl).trans ?_
          refine (R_getI zf196_39 zo_196 zfl_12_119 zk1_97 zft_12_10 rfl).trans ?_
          refine (R_iadd zf196_42 rfl).trans ?_
          refine (R_bald zf196_43 zk_99 rfl).trans ?_
          refine ite_congr rfl (fun c18_ => ?_) (fun _ => rfl)
          refine (R_bipush zf196_44 zb_57 rfl).trans ?_
          refine (R_icmp_gt (t := 53) zf196_46 rfl rfl).trans ?_
          refine ite_congr rfl (fun c19_ => ?_) (fun c19_ => ?_)
          · refine (R_iconst zf196_53 zw_0 rfl).trans ?_
            exact R_ireturn zf196_54 (by rw [zr_196]; rfl)
          · refine (R_iconst zf196_49 zw_1 rfl).trans ?_
            refine (R_goto (t := 54) zf196_50 rfl).trans ?_
            exact R_ireturn zf196_54 (by rw [zr_196]; rfl)
        rfl
    rfl
-- java/lang/String.length()I at 0
theorem q28_0 (d : Nat) (h : MH) : Run (d + 1) 28 0 [.inr (.inr (.inl 126))] [] h = (cI (Run d 29 0 [.inr (.inr (.inl 126))] [] h) fun a2_ h1_ => some (some (.inl (iShr 1 a2_)), h1_)) := by
  refine (R_aload_n zf28_0 rfl zlt_126 rfl).trans ?_
  refine (R_getR zf28_1 zo_28 zfl_13_9 zk1_126 zft_13_0 zmr_126_0 rfl).trans ?_
  refine (R_len111 (v := 1) zf28_4 zk_133 rfl rfl).trans ?_
  refine (R_aload_n zf28_5 rfl zlt_126 rfl).trans ?_
  refine (R_vcallI zf28_6 zo_28 zvl_13_335 (by rw [zr_29]; rfl) zl_29 (Nat.le_of_ble_eq_true rfl) rfl rfl (Nat.le_of_ble_eq_true rfl) (Nat.le_of_ble_eq_true rfl) (es := [.inr (.inr (.inl 126))]) rfl rfl zk1_126 zo_29).trans ?_
  refine congrArg (cI _) (funext fun a2_ => funext fun h1_ => ?_)
  refine (R_ishr zf28_9 rfl).trans ?_
  exact R_ireturn_i zf28_10 zr_28
-- java/lang/String.charAt(I)C at 0
theorem q12_0 (d : Nat) (x0 : Int) (h : MH) : Run (d + 1) 12 0 [.inr (.inr (.inl 126)), .inl x0] [] h = (cI (Run d 13 0 [.inr (.inr (.inl 126))] [] h) fun a2_ h1_ => (if a2_ = 0 then Run (d + 1) 12 21 [.inr (.inr (.inl 126)), .inl x0] [.inl x0, .inr (.inr (.inl 133))] h1_ else (cI (Run d 14 0 [.inr (.inr (.inl 133)), .inl x0] [] h1_) fun a5_ h4_ => (if 0 ≤ a5_ ∧ a5_ ≤ 65535 then some (some (.inl a5_), h4_) else none)))) := by
  refine (R_aload_n zf12_0 rfl zlt_126 rfl).trans ?_
  refine (R_vcallI zf12_1 zo_12 zvl_13_492 (by rw [zr_13]; rfl) zl_13 (Nat.le_of_ble_eq_true rfl) rfl rfl (Nat.le_of_ble_eq_true rfl) (Nat.le_of_ble_eq_true rfl) (es := [.inr (.inr (.inl 126))]) rfl rfl zk1_126 zo_13).trans ?_
  refine congrArg (cI _) (funext fun a2_ => funext fun h1_ => ?_)
  refine (R_if_eq (t := 16) zf12_4 rfl rfl).trans ?_
  refine ite_congr rfl (fun c3_ => ?_) (fun c3_ => ?_)
  · refine (R_aload_n zf12_16 rfl zlt_126 rfl).trans ?_
    refine (R_getR zf12_17 zo_12 zfl_13_9 zk1_126 zft_13_0 zmr_126_0 rfl).trans ?_
    refine (R_iload_n zf12_20 rfl rfl).trans ?_
    rfl
  · refine (R_aload_n zf12_7 rfl zlt_126 rfl).trans ?_
    refine (R_getR zf12_8 zo_12 zfl_13_9 zk1_126 zft_13_0 zmr_126_0 rfl).trans ?_
    refine (R_iload_n zf12_11 rfl rfl).trans ?_
    refine (R_callI zf12_12 zo_12 zsl_13_495 (by rw [zr_14]; rfl) zl_14 (Nat.le_of_ble_eq_true rfl) rfl rfl (Nat.le_of_ble_eq_true rfl) (Nat.le_of_ble_eq_true rfl) (es := [.inr (.inr (.inl 133)), .inl x0]) rfl rfl).trans ?_
    refine congrArg (cI _) (funext fun a5_ => funext fun h4_ => ?_)
    exact R_ireturn_c zf12_15 zr_12
-- CannonPostModel.unit()Z at 0
theorem q212_0 (d : Nat) (h : MH) : Run (d + 1) 212 0 [.inr (.inr (.inl 97)), vU, vU] [] h = (cI (Run d 188 0 [.inr (.inr (.inl 97))] [] h) fun a2_ h1_ => (if ¬ a2_ = 33 then (if ¬ a2_ = 40 then (cI (Run d 205 0 [.inr (.inr (.inl 97)), .inl 0, .inl 0, vU, vU, vU] [] h1_) fun a6_ h5_ => (if a6_ = 0 ∨ a6_ = 1 then some (some (.inl a6_), h5_) else none)) else (cI (Run d 209 0 [.inr (.inr (.inl 97))] [] h1_) fun a8_ h7_ => (if ¬ a8_ = 0 then (cI (Run d 203 0 [.inr (.inr (.inl 97)), .inl 0, .inl 0, vU, vU] [] h7_) fun a11_ h10_ => (cI (Run d 202 0 [.inr (.inr (.inl 97)), .inl 41] [] h10_) fun a13_ h12_ => (if ¬ a13_ = 0 then (if a11_ = 0 ∨ a11_ = 1 then some (some (.inl a11_), (up h12_ 97 12 (wI ((h12_ 97 12) - 1)))) else none) else some (some (.inl 0), h12_)))) else some (some (.inl 0), h7_)))) else (cI (Run d 209 0 [.inr (.inr (.inl 97))] [] h1_) fun a16_ h15_ => (if ¬ a16_ = 0 then (cI (Run d 212 0 [.inr (.inr (.inl 97)), vU, vU] [] h15_) fun a19_ h18_ => (if ¬ a19_ = 0 then some (some (.inl 0), (up h18_ 97 12 (wI ((h18_ 97 12) - 1)))) else some (some (.inl 1), (up h18_ 97 12 (wI ((h18_ 97 12) - 1)))))) else some (some (.inl 0), h15_))))) := by
  refine (R_aload_n zf212_0 rfl zlt_97 rfl).trans ?_
  refine (R_vcallI zf212_1 zo_212 zvl_12_138 (by rw [zr_188]; rfl) zl_188 (Nat.le_of_ble_eq_true rfl) rfl rfl (Nat.le_of_ble_eq_true rfl) (Nat.le_of_ble_eq_true rfl) (es := [.inr (.inr (.inl 97))]) rfl rfl zk1_97 zo_188).trans ?_
  refine congrArg (cI _) (funext fun a2_ => funext fun h1_ => ?_)
  refine (R_istore_n (ls' := [.inr (.inr (.inl 97)), .inl a2_, vU]) zf212_4 (Nat.le_of_ble_eq_true rfl) rfl rfl).trans ?_
  refine (R_iload_n zf212_5 rfl rfl).trans ?_
  refine (R_bipush zf212_6 zb_33 rfl).trans ?_
  refine (R_icmp_ne (t := 45) zf212_8 rfl rfl).trans ?_
  refine ite_congr rfl (fun c3_ => ?_) (fun c3_ => ?_)
  · refine (R_iload_n zf212_45 rfl rfl).trans ?_
    refine (R_bipush zf212_46 zb_40 rfl).trans ?_
    refine (R_icmp_ne (t := 90) zf212_48 rfl rfl).trans ?_
    refine ite_congr rfl (fun c4_ => ?_) (fun c4_ => ?_)
    · refine (R_aload_n zf212_90 rfl zlt_97 rfl).trans ?_
      refine (R_iconst zf212_91 zw_0 rfl).trans ?_
      refine (R_iconst zf212_92 zw_0 rfl).trans ?_
      refine (R_vcallI zf212_93 zo_212 zvl_12_191 (by rw [zr_205]; rfl) zl_205 (Nat.le_of_ble_eq_true rfl) rfl rfl (Nat.le_of_ble_eq_true rfl) (Nat.le_of_ble_eq_true rfl) (es := [.inr (.inr (.inl 97)), .inl 0, .inl 0, vU, vU, vU]) rfl rfl zk1_97 zo_205).trans ?_
      refine congrArg (cI _) (funext fun a6_ => funext fun h5_ => ?_)
      exact R_ireturn_z zf212_96 zr_212
    · refine (R_aload_n zf212_51 rfl zlt_97 rfl).trans ?_
      refine (R_vcallI zf212_52 zo_212 zvl_12_158 (by rw [zr_209]; rfl) zl_209 (Nat.le_of_ble_eq_true rfl) rfl rfl (Nat.le_of_ble_eq_true rfl) (Nat.le_of_ble_eq_true rfl) (es := [.inr (.inr (.inl 97))]) rfl rfl zk1_97 zo_209).trans ?_
      refine congrArg (cI _) (funext fun a8_ => funext fun h7_ => ?_)
      refine (R_if_ne (t := 60) zf212_55 rfl rfl).trans ?_
      refine ite_congr rfl (fun c9_ => ?_) (fun c9_ => ?_)
      · refine (R_aload_n zf212_60 rfl zlt_97 rfl).trans ?_
        refine (R_iconst zf212_61 zw_0 rfl).trans ?_
        refine (R_iconst zf212_62 zw_0 rfl).trans ?_
        refine (R_vcallI zf212_63 zo_212 zvl_12_187 (by rw [zr_203]; rfl) zl_203 (Nat.le_of_ble_eq_true rfl) rfl rfl (Nat.le_of_ble_eq_true rfl) (Nat.le_of_ble_eq_true rfl) (es := [.inr (.inr (.inl 97)), .inl 0, .inl 0, vU, vU]) rfl rfl zk1_97 zo_203).trans ?_
        refine congrArg (cI _) (funext fun a11_ => funext fun h10_ => ?_)
        refine (R_istore_n (ls' := [.inr (.inr (.inl 97)), .inl a2_, .inl a11_]) zf212_66 (Nat.le_of_ble_eq_true rfl) rfl rfl).trans ?_
        refine (R_aload_n zf212_67 rfl zlt_97 rfl).trans ?_
        refine (R_bipush zf212_68 zb_41 rfl).trans ?_
        refine (R_vcallI zf212_70 zo_212 zvl_12_164 (by rw [zr_202]; rfl) zl_202 (Nat.le_of_ble_eq_true rfl) rfl rfl (Nat.le_of_ble_eq_true rfl) (Nat.le_of_ble_eq_true rfl) (es := [.inr (.inr (.inl 97)), .inl 41]) rfl rfl zk1_97 zo_202).trans ?_
        refine congrArg (cI _) (funext fun a13_ => funext fun h12_ => ?_)
        refine (R_if_ne (t := 78) zf212_73 rfl rfl).trans ?_
        refine ite_congr rfl (fun c14_ => ?_) (fun c14_ => ?_)
        · refine (R_aload_n zf212_78 rfl zlt_97 rfl).trans ?_
          refine (R_dup zf212_79 rfl rfl).trans ?_
          refine (R_getI zf212_80 zo_212 zfl_12_131 zk1_97 zft_12_12 rfl).trans ?_
          refine (R_iconst zf212_83 zw_1 rfl).trans ?_
          refine (R_isub zf212_84 rfl).trans ?_
          refine (R_putI zf212_85 zo_212 zfl_12_131 zk1_97 zft_12_12 rfl).trans ?_
          refine (R_iload_n zf212_88 rfl rfl).trans ?_
          exact R_ireturn_z zf212_89 zr_212
        · refine (R_iconst zf212_76 zw_0 rfl).trans ?_
          exact R_ireturn zf212_77 (by rw [zr_212]; rfl)
      · refine (R_iconst zf212_58 zw_0 rfl).trans ?_
        exact R_ireturn zf212_59 (by rw [zr_212]; rfl)
  · refine (R_aload_n zf212_11 rfl zlt_97 rfl).trans ?_
    refine (R_vcallI zf212_12 zo_212 zvl_12_158 (by rw [zr_209]; rfl) zl_209 (Nat.le_of_ble_eq_true rfl) rfl rfl (Nat.le_of_ble_eq_true rfl) (Nat.le_of_ble_eq_true rfl) (es := [.inr (.inr (.inl 97))]) rfl rfl zk1_97 zo_209).trans ?_
    refine congrArg (cI _) (funext fun a16_ => funext fun h15_ => ?_)
    refine (R_if_ne (t := 20) zf212_15 rfl rfl).trans ?_
    refine ite_congr rfl (fun c17_ => ?_) (fun c17_ => ?_)
    · refine (R_aload_n zf212_20 rfl zlt_97 rfl).trans ?_
      refine (R_vcallI zf212_21 zo_212 zvl_12_184 (by rw [zr_212]; rfl) zl_212 (Nat.le_of_ble_eq_true rfl) rfl rfl (Nat.le_of_ble_eq_true rfl) (Nat.le_of_ble_eq_true rfl) (es := [.inr (.inr (.inl 97)), vU, vU]) rfl rfl zk1_97 zo_212).trans ?_
      refine congrArg (cI _) (funext fun a19_ => funext fun h18_ => ?_)
      refine (R_istore_n (ls' := [.inr (.inr (.inl 97)), .inl a2_, .inl a19_]) zf212_24 (Nat.le_of_ble_eq_true rfl) rfl rfl).trans ?_
      refine (R_aload_n zf212_25 rfl zlt_97 rfl).trans ?_
      refine (R_dup zf212_26 rfl rfl).trans ?_
      refine (R_getI zf212_27 zo_212 zfl_12_131 zk1_97 zft_12_12 rfl).trans ?_
      refine (R_iconst zf212_30 zw_1 rfl).trans ?_
      refine (R_isub zf212_31 rfl).trans ?_
      refine (R_putI zf212_32 zo_212 zfl_12_131 zk1_97 zft_12_12 rfl).trans ?_
      refine (R_iload_n zf212_35 rfl rfl).trans ?_
      refine (R_if_ne (t := 43) zf212_36 rfl rfl).trans ?_
      refine ite_congr rfl (fun c20_ => ?_) (fun c20_ => ?_)
      · refine (R_iconst zf212_43 zw_0 rfl).trans ?_
        exact R_ireturn zf212_44 (by rw [zr_212]; rfl)
      · refine (R_iconst zf212_39 zw_1 rfl).trans ?_
        refine (R_goto (t := 44) zf212_40 rfl).trans ?_
        exact R_ireturn zf212_44 (by rw [zr_212]; rfl)
    · refine (R_iconst zf212_18 zw_0 rfl).trans ?_
      exact R_ireturn zf212_19 (by rw [zr_212]; rfl)
-- CannonPostModel.part(ZI)Z at 18
theorem q204_18 (d : Nat) (x0 : Int) (x1 : Int) (x2 : Int) (h : MH) : Run (d + 1) 204 18 [.inr (.inr (.inl 97)), .inl x0, .inl x1, .inl x2, vU] [] h = (if ¬ (h 97 11) = (-1) then (if x2 = 0 ∨ x2 = 1 then some (some (.inl x2), h) else none) else (cI (Run d 188 0 [.inr (.inr (.inl 97))] [] h) fun a3_ h2_ => (if ¬ a3_ = 38 then (if x2 = 0 ∨ x2 = 1 then some (some (.inl x2), h2_) else none) else (cI (Run d 212 0 [.inr (.inr (.inl 97)), vU, vU] [] (up h2_ 97 10 (wI ((h2_ 97 10) + 1)))) fun a6_ h5_ => (if x2 = 0 then Run (d + 1) 204 18 [.inr (.inr (.inl 97)), .inl x0, .inl x1, .inl 0, .inl a6_] [] h5_ else (if a6_ = 0 then Run (d + 1) 204 18 [.inr (.inr (.inl 97)), .inl x0, .inl x1, .inl 0, .inl a6_] [] h5_ else Run (d + 1) 204 18 [.inr (.inr (.inl 97)), .inl x0, .inl x1, .inl 1, .inl a6_] [] h5_)))))) := by
  refine (R_aload_n zf204_18 rfl zlt_97 rfl).trans ?_
  refine (R_getI zf204_19 zo_204 zfl_12_128 zk1_97 zft_12_11 rfl).trans ?_
  refine (R_iconst zf204_22 zw_m1 rfl).trans ?_
  refine (R_icmp_ne (t := 69) zf204_23 rfl rfl).trans ?_
  refine ite_congr rfl (fun c1_ => ?_) (fun c1_ => ?_)
  · refine (R_iload_n zf204_69 rfl rfl).trans ?_
    exact R_ireturn_z zf204_70 zr_204
  · refine (R_aload_n zf204_26 rfl zlt_97 rfl).trans ?_
    refine (R_vcallI zf204_27 zo_204 zvl_12_138 (by rw [zr_188]; rfl) zl_188 (Nat.le_of_ble_eq_true rfl) rfl rfl (Nat.le_of_ble_eq_true rfl) (Nat.le_of_ble_eq_true rfl) (es := [.inr (.inr (.inl 97))]) rfl rfl zk1_97 zo_188).trans ?_
    refine congrArg (cI _) (funext fun a3_ => funext fun h2_ => ?_)
    refine (R_bipush zf204_30 zb_38 rfl).trans ?_
    refine (R_icmp_ne (t := 69) zf204_32 rfl rfl).trans ?_
    refine ite_congr rfl (fun c4_ => ?_) (fun c4_ => ?_)
    · refine (R_iload_n zf204_69 rfl rfl).trans ?_
      exact R_ireturn_z zf204_70 zr_204
    · refine (R_aload_n zf204_35 rfl zlt_97 rfl).trans ?_
      refine (R_dup zf204_36 rfl rfl).trans ?_
      refine (R_getI zf204_37 zo_204 zfl_12_119 zk1_97 zft_12_10 rfl).trans ?_
      refine (R_iconst zf204_40 zw_1 rfl).trans ?_
      refine (R_iadd zf204_41 rfl).trans ?_
      refine (R_putI zf204_42 zo_204 zfl_12_119 zk1_97 zft_12_10 rfl).trans ?_
      refine (R_aload_n zf204_45 rfl zlt_97 rfl).trans ?_
      refine (R_vcallI zf204_46 zo_204 zvl_12_184 (by rw [zr_212]; rfl) zl_212 (Nat.le_of_ble_eq_true rfl) rfl rfl (Nat.le_of_ble_eq_true rfl) (Nat.le_of_ble_eq_true rfl) (es := [.inr (.inr (.inl 97)), vU, vU]) rfl rfl zk1_97 zo_212).trans ?_
      refine congrArg (cI _) (funext fun a6_ => funext fun h5_ => ?_)
      refine (R_istore (ls' := [.inr (.inr (.inl 97)), .inl x0, .inl x1, .inl x2, .inl a6_]) zf204_49 (Nat.le_of_ble_eq_true rfl) rfl rfl).trans ?_
      refine (R_iload_n zf204_51 rfl rfl).trans ?_
      refine (R_if_eq (t := 64) zf204_52 rfl rfl).trans ?_
      refine ite_congr rfl (fun c7_ => ?_) (fun c7_ => ?_)
      · refine (R_iconst zf204_64 zw_0 rfl).trans ?_
        refine (R_istore_n (ls' := [.inr (.inr (.inl 97)), .inl x0, .inl x1, .inl 0, .inl a6_]) zf204_65 (Nat.le_of_ble_eq_true rfl) rfl rfl).trans ?_
        refine (R_goto (t := 18) zf204_66 rfl).trans ?_
        rfl
      · refine (R_iload zf204_55 rfl rfl).trans ?_
        refine (R_if_eq (t := 64) zf204_57 rfl rfl).trans ?_
        refine ite_congr rfl (fun c8_ => ?_) (fun c8_ => ?_)
        · refine (R_iconst zf204_64 zw_0 rfl).trans ?_
          refine (R_istore_n (ls' := [.inr (.inr (.inl 97)), .inl x0, .inl x1, .inl 0, .inl a6_]) zf204_65 (Nat.le_of_ble_eq_true rfl) rfl rfl).trans ?_
          refine (R_goto (t := 18) zf204_66 rfl).trans ?_
          rfl
        · refine (R_iconst zf204_60 zw_1 rfl).trans ?_
          refine (R_goto (t := 65) zf204_61 rfl).trans ?_
          refine (R_istore_n (ls' := [.inr (.inr (.inl 97)), .inl x0, .inl x1, .inl 1, .inl a6_]) zf204_65 (Nat.le_of_ble_eq_true rfl) rfl rfl).trans ?_
          refine (R_goto (t := 18) zf204_66 rfl).trans ?_
          rfl
-- CannonPostModel.compares(ZI)Z at 0
theorem q205_0 (d : Nat) (x0 : Int) (x1 : Int) (h : MH) : Run (d + 1) 205 0 [.inr (.inr (.inl 97)), .inl x0, .inl x1, vU, vU, vU] [] h = (if x0 = 0 then (cI (Run d 206 0 [.inr (.inr (.inl 97)), vU, vU, vU, vU] [] h) fun a3_ h2_ => Run (d + 1) 205 12 [.inr (.inr (.inl 97)), .inl x0, .inl x1, vU, vU, vU] [.inl a3_] h2_) else Run (d + 1) 205 12 [.inr (.inr (.inl 97)), .inl x0, .inl x1, vU, vU, vU] [.inl x1] h) := by
  refine (R_iload_n zf205_0 rfl rfl).trans ?_
  refine (R_if_eq (t := 8) zf205_1 rfl rfl).trans ?_
  refine ite_congr rfl (fun c1_ => ?_) (fun c1_ => ?_)
  · refine (R_aload_n zf205_8 rfl zlt_97 rfl).trans ?_
    refine (R_vcallI zf205_9 zo_205 zvl_12_161 (by rw [zr_206]; rfl) zl_206 (Nat.le_of_ble_eq_true rfl) rfl rfl (Nat.le_of_ble_eq_true rfl) (Nat.le_of_ble_eq_true rfl) (es := [.inr (.inr (.inl 97)), vU, vU, vU, vU]) rfl rfl zk1_97 zo_206).trans ?_
    refine congrArg (cI _) (funext fun a3_ => funext fun h2_ => ?_)
    rfl
  · refine (R_iload_n zf205_4 rfl rfl).trans ?_
    refine (R_goto (t := 12) zf205_5 rfl).trans ?_
    rfl
-- CannonPostModel.condition(ZI)Z at 7
theorem q203_7_1 (d : Nat) (x0 : Int) (x1 : Int) (x2 : Int) (x3 : Int) (h : MH) : Run (d + 1) 203 7 [.inr (.inr (.inl 97)), .inl x0, .inl x1, .inl x2, .inl x3] [] h = (if ¬ (h 97 11) = (-1) then (if x2 = 0 ∨ x2 = 1 then some (some (.inl x2), h) else none) else (cI (Run d 188 0 [.inr (.inr (.inl 97))] [] h) fun a3_ h2_ => (if ¬ a3_ = 124 then (if x2 = 0 ∨ x2 = 1 then some (some (.inl x2), h2_) else none) else (cI (Run d 204 0 [.inr (.inr (.inl 97)), .inl 0, .inl 0, vU, vU] [] (up h2_ 97 10 (wI ((h2_ 97 10) + 1)))) fun a6_ h5_ => (if ¬ x2 = 0 then Run (d + 1) 203 7 [.inr (.inr (.inl 97)), .inl x0, .inl x1, .inl 1, .inl a6_] [] h5_ else (if a6_ = 0 then Run (d + 1) 203 7 [.inr (.inr (.inl 97)), .inl x0, .inl x1, .inl 0, .inl a6_] [] h5_ else Run (d + 1) 203 7 [.inr (.inr (.inl 97)), .inl x0, .inl x1, .inl 1, .inl a6_] [] h5_)))))) := by
  refine (R_aload_n zf203_7 rfl zlt_97 rfl).trans ?_
  refine (R_getI zf203_8 zo_203 zfl_12_128 zk1_97 zft_12_11 rfl).trans ?_
  refine (R_iconst zf203_11 zw_m1 rfl).trans ?_
  refine (R_icmp_ne (t := 60) zf203_12 rfl rfl).trans ?_
  refine ite_congr rfl (fun c1_ => ?_) (fun c1_ => ?_)
  · refine (R_iload_n zf203_60 rfl rfl).trans ?_
    exact R_ireturn_z zf203_61 zr_203
  · refine (R_aload_n zf203_15 rfl zlt_97 rfl).trans ?_
    refine (R_vcallI zf203_16 zo_203 zvl_12_138 (by rw [zr_188]; rfl) zl_188 (Nat.le_of_ble_eq_true rfl) rfl rfl (Nat.le_of_ble_eq_true rfl) (Nat.le_of_ble_eq_true rfl) (es := [.inr (.inr (.inl 97))]) rfl rfl zk1_97 zo_188).trans ?_
    refine congrArg (cI _) (funext fun a3_ => funext fun h2_ => ?_)
    refine (R_bipush zf203_19 zb_124 rfl).trans ?_
    refine (R_icmp_ne (t := 60) zf203_21 rfl rfl).trans ?_
    refine ite_congr rfl (fun c4_ => ?_) (fun c4_ => ?_)
    · refine (R_iload_n zf203_60 rfl rfl).trans ?_
      exact R_ireturn_z zf203_61 zr_203
    · refine (R_aload_n zf203_24 rfl zlt_97 rfl).trans ?_
      refine (R_dup zf203_25 rfl rfl).trans ?_
      refine (R_getI zf203_26 zo_203 zfl_12_119 zk1_97 zft_12_10 rfl).trans ?_
      refine (R_iconst zf203_29 zw_1 rfl).trans ?_
      refine (R_iadd zf203_30 rfl).trans ?_
      refine (R_putI zf203_31 zo_203 zfl_12_119 zk1_97 zft_12_10 rfl).trans ?_
      refine (R_aload_n zf203_34 rfl zlt_97 rfl).trans ?_
      refine (R_iconst zf203_35 zw_0 rfl).trans ?_
      refine (R_iconst zf203_36 zw_0 rfl).trans ?_
      refine (R_vcallI zf203_37 zo_203 zvl_12_194 (by rw [zr_204]; rfl) zl_204 (Nat.le_of_ble_eq_true rfl) rfl rfl (Nat.le_of_ble_eq_true rfl) (Nat.le_of_ble_eq_true rfl) (es := [.inr (.inr (.inl 97)), .inl 0, .inl 0, vU, vU]) rfl rfl zk1_97 zo_204).trans ?_
      refine congrArg (cI _) (funext fun a6_ => funext fun h5_ => ?_)
      refine (R_istore (ls' := [.inr (.inr (.inl 97)), .inl x0, .inl x1, .inl x2, .inl a6_]) zf203_40 (Nat.le_of_ble_eq_true rfl) rfl rfl).trans ?_
      refine (R_iload_n zf203_42 rfl rfl).trans ?_
      refine (R_if_ne (t := 51) zf203_43 rfl rfl).trans ?_
      refine ite_congr rfl (fun c7_ => ?_) (fun c7_ => ?_)
      · refine (R_iconst zf203_51 zw_1 rfl).trans ?_
        refine (R_goto (t := 56) zf203_52 rfl).trans ?_
        refine (R_istore_n (ls' := [.inr (.inr (.inl 97)), .inl x0, .inl x1, .inl 1, .inl a6_]) zf203_56 (Nat.le_of_ble_eq_true rfl) rfl rfl).trans ?_
        refine (R_goto (t := 7) zf203_57 rfl).trans ?_
        rfl
      · refine (R_iload zf203_46 rfl rfl).trans ?_
        refine (R_if_eq (t := 55) zf203_48 rfl rfl).trans ?_
        refine ite_congr rfl (fun c8_ => ?_) (fun c8_ => ?_)
        · refine (R_iconst zf203_55 zw_0 rfl).trans ?_
          refine (R_istore_n (ls' := [.inr (.inr (.inl 97)), .inl x0, .inl x1, .inl 0, .inl a6_]) zf203_56 (Nat.le_of_ble_eq_true rfl) rfl rfl).trans ?_
          refine (R_goto (t := 7) zf203_57 rfl).trans ?_
          rfl
        · refine (R_iconst zf203_51 zw_1 rfl).trans ?_
          refine (R_goto (t := 56) zf203_52 rfl).trans ?_
          refine (R_istore_n (ls' := [.inr (.inr (.inl 97)), .inl x0, .inl x1, .inl 1, .inl a6_]) zf203_56 (Nat.le_of_ble_eq_true rfl) rfl rfl).trans ?_
          refine (R_goto (t := 7) zf203_57 rfl).trans ?_
          rfl
-- CannonPostModel.atom()I at 0
theorem q208_0 (d : Nat) (h : MH) : Run (d + 1) 208 0 [.inr (.inr (.inl 97)), vU, vU, vU] [] h = (cI (Run d 188 0 [.inr (.inr (.inl 97))] [] h) fun a2_ h1_ => (cI (Run d 201 0 [.inr (.inr (.inl 125)), .inl a2_, vU] [] h1_) fun a4_ h3_ => (if a4_ = 0 then (if ¬ a2_ = 91 then (cI (Run d 196 0 [.inr (.inr (.inl 97))] [] h3_) fun a8_ h7_ => (if ¬ a8_ = 0 then Run (d + 1) 208 90 [.inr (.inr (.inl 97)), .inl a2_, .inl 0, .inl 0] [] h7_ else (cI (Run d 189 0 [.inr (.inr (.inl 97))] [] h7_) fun a11_ h10_ => Run (d + 1) 208 90 [.inr (.inr (.inl 97)), .inl a2_, .inl 0, .inl 0] [] h10_))) else (cI (Run d 209 0 [.inr (.inr (.inl 97))] [] h3_) fun a13_ h12_ => (if ¬ a13_ = 0 then (cI (Run d 206 0 [.inr (.inr (.inl 97)), vU, vU, vU, vU] [] h12_) fun a16_ h15_ => (cI (Run d 202 0 [.inr (.inr (.inl 97)), .inl 93] [] h15_) fun a18_ h17_ => (if ¬ a18_ = 0 then some (some (.inl a16_), (up h17_ 97 12 (wI ((h17_ 97 12) - 1)))) else some (some (.inl 0), h17_)))) else some (some (.inl 0), h12_)))) else (if 0 ≤ a2_ ∧ a2_ < 128 then some (some (.inl ((up h3_ 97 10 (wI ((h3_ 97 10) + 1))) 101 a2_.toNat)), (up h3_ 97 10 (wI ((h3_ 97 10) + 1)))) else none)))) := by
  refine (R_aload_n zf208_0 rfl zlt_97 rfl).trans ?_
  refine (R_vcallI zf208_1 zo_208 zvl_12_138 (by rw [zr_188]; rfl) zl_188 (Nat.le_of_ble_eq_true rfl) rfl rfl (Nat.le_of_ble_eq_true rfl) (Nat.le_of_ble_eq_true rfl) (es := [.inr (.inr (.inl 97))]) rfl rfl zk1_97 zo_188).trans ?_
  refine congrArg (cI _) (funext fun a2_ => funext fun h1_ => ?_)
  refine (R_istore_n (ls' := [.inr (.inr (.inl 97)), .inl a2_, vU, vU]) zf208_4 (Nat.le_of_ble_eq_true rfl) rfl rfl).trans ?_
  refine (R_ldcS zf208_5 zo_208 zcl_12_32 zrl_12_32 rfl).trans ?_
  refine (R_iload_n zf208_7 rfl rfl).trans ?_
  refine (R_callI zf208_8 zo_208 zsl_12_154 (by rw [zr_201]; rfl) zl_201 (Nat.le_of_ble_eq_true rfl) rfl rfl (Nat.le_of_ble_eq_true rfl) (Nat.le_of_ble_eq_true rfl) (es := [.inr (.inr (.inl 125)), .inl a2_, vU]) rfl rfl).trans ?_
  refine congrArg (cI _) (funext fun a4_ => funext fun h3_ => ?_)
  refine (R_if_eq (t := 31) zf208_11 rfl rfl).trans ?_
  refine ite_congr rfl (fun c5_ => ?_) (fun c5_ => ?_)
  · refine (R_iload_n zf208_31 rfl rfl).trans ?_
    refine (R_bipush zf208_32 zb_91 rfl).trans ?_
    refine (R_icmp_ne (t := 74) zf208_34 rfl rfl).trans ?_
    refine ite_congr rfl (fun c6_ => ?_) (fun c6_ => ?_)
    · refine (R_aload_n zf208_74 rfl zlt_97 rfl).trans ?_
      refine (R_vcallI zf208_75 zo_208 zvl_12_168 (by rw [zr_196]; rfl) zl_196 (Nat.le_of_ble_eq_true rfl) rfl rfl (Nat.le_of_ble_eq_true rfl) (Nat.le_of_ble_eq_true rfl) (es := [.inr (.inr (.inl 97))]) rfl rfl zk1_97 zo_196).trans ?_
      refine congrArg (cI _) (funext fun a8_ => funext fun h7_ => ?_)
      refine (R_if_ne (t := 86) zf208_78 rfl rfl).trans ?_
      refine ite_congr rfl (fun c9_ => ?_) (fun c9_ => ?_)
      · refine (R_iconst zf208_86 zw_0 rfl).trans ?_
        refine (R_istore_n (ls' := [.inr (.inr (.inl 97)), .inl a2_, .inl 0, vU]) zf208_87 (Nat.le_of_ble_eq_true rfl) rfl rfl).trans ?_
        refine (R_iconst zf208_88 zw_0 rfl).trans ?_
        refine (R_istore_n (ls' := [.inr (.inr (.inl 97)), .inl a2_, .inl 0, .inl 0]) zf208_89 (Nat.le_of_ble_eq_true rfl) rfl rfl).trans ?_
        rfl
      · refine (R_aload_n zf208_81 rfl zlt_97 rfl).trans ?_
        refine (R_vcallI zf208_82 zo_208 zvl_12_134 (by rw [zr_189]; rfl) zl_189 (Nat.le_of_ble_eq_true rfl) rfl rfl (Nat.le_of_ble_eq_true rfl) (Nat.le_of_ble_eq_true rfl) (es := [.inr (.inr (.inl 97))]) rfl rfl zk1_97 zo_189).trans ?_
        refine congrArg (cI _) (funext fun a11_ => funext fun h10_ => ?_)
        refine (R_pop zf208_85 rfl rfl).trans ?_
        refine (R_iconst zf208_86 zw_0 rfl).trans ?_
        refine (R_istore_n (ls' := [.inr (.inr (.inl 97)), .inl a2_, .inl 0, vU]) zf208_87 (Nat.le_of_ble_eq_true rfl) rfl rfl).trans ?_
        refine (R_iconst zf208_88 zw_0 rfl).trans ?_
        refine (R_istore_n (ls' := [.inr (.inr (.inl 97)), .inl a2_, .inl 0, .inl 0]) zf208_89 (Nat.le_of_ble_eq_true rfl) rfl rfl).trans ?_
        rfl
    · refine (R_aload_n zf208_37 rfl zlt_97 rfl).trans ?_
      refine (R_vcallI zf208_38 zo_208 zvl_12_158 (by rw [zr_209]; rfl) zl_209 (Nat.le_of_ble_eq_true rfl) rfl rfl (Nat.le_of_ble_eq_true rfl) (Nat.le_of_ble_eq_true rfl) (es := [.inr (.inr (.inl 97))]) rfl rfl zk1_97 zo_209).trans ?_
      refine congrArg (cI _) (funext fun a13_ => funext fun h12_ => ?_)
      refine (R_if_ne (t := 46) zf208_41 rfl rfl).trans ?_
      refine ite_congr rfl (fun c14_ => ?_) (fun c14_ => ?_)
      · refine (R_aload_n zf208_46 rfl zlt_97 rfl).trans ?_
        refine (R_vcallI zf208_47 zo_208 zvl_12_161 (by rw [zr_206]; rfl) zl_206 (Nat.le_of_ble_eq_true rfl) rfl rfl (Nat.le_of_ble_eq_true rfl) (Nat.le_of_ble_eq_true rfl) (es := [.inr (.inr (.inl 97)), vU, vU, vU, vU]) rfl rfl zk1_97 zo_206).trans ?_
        refine congrArg (cI _) (funext fun a16_ => funext fun h15_ => ?_)
        refine (R_istore_n (ls' := [.inr (.inr (.inl 97)), .inl a2_, .inl a16_, vU]) zf208_50 (Nat.le_of_ble_eq_true rfl) rfl rfl).trans ?_
        refine (R_aload_n zf208_51 rfl zlt_97 rfl).trans ?_
        refine (R_bipush zf208_52 zb_93 rfl).trans ?_
        refine (R_vcallI zf208_54 zo_208 zvl_12_164 (by rw [zr_202]; rfl) zl_202 (Nat.le_of_ble_eq_true rfl) rfl rfl (Nat.le_of_ble_eq_true rfl) (Nat.le_of_ble_eq_true rfl) (es := [.inr (.inr (.inl 97)), .inl 93]) rfl rfl zk1_97 zo_202).trans ?_
        refine congrArg (cI _) (funext fun a18_ => funext fun h17_ => ?_)
        refine (R_if_ne (t := 62) zf208_57 rfl rfl).trans ?_
        refine ite_congr rfl (fun c19_ => ?_) (fun c19_ => ?_)
        · refine (R_aload_n zf208_62 rfl zlt_97 rfl).trans ?_
          refine (R_dup zf208_63 rfl rfl).trans ?_
          refine (R_getI zf208_64 zo_208 zfl_12_131 zk1_97 zft_12_12 rfl).trans ?_
          refine (R_iconst zf208_67 zw_1 rfl).trans ?_
          refine (R_isub zf208_68 rfl).trans ?_
          refine (R_putI zf208_69 zo_208 zfl_12_131 zk1_97 zft_12_12 rfl).trans ?_
          refine (R_iload_n zf208_72 rfl rfl).trans ?_
          exact R_ireturn_i zf208_73 zr_208
        · refine (R_iconst zf208_60 zw_0 rfl).trans ?_
          exact R_ireturn_i zf208_61 zr_208
      · refine (R_iconst zf208_44 zw_0 rfl).trans ?_
        exact R_ireturn_i zf208_45 zr_208
  · refine (R_aload_n zf208_14 rfl zlt_97 rfl).trans ?_
    refine (R_dup zf208_15 rfl rfl).trans ?_
    refine (R_getI zf208_16 zo_208 zfl_12_119 zk1_97 zft_12_10 rfl).trans ?_
    refine (R_iconst zf208_19 zw_1 rfl).trans ?_
    refine (R_iadd zf208_20 rfl).trans ?_
    refine (R_putI zf208_21 zo_208 zfl_12_119 zk1_97 zft_12_10 rfl).trans ?_
    refine (R_aload_n zf208_24 rfl zlt_97 rfl).trans ?_
    refine (R_getR zf208_25 zo_208 zfl_12_20 zk1_97 zft_12_4 zmr_97_4 rfl).trans ?_
    refine (R_iload_n zf208_28 rfl rfl).trans ?_
    refine (R_iald zf208_29 zk_101 rfl).trans ?_
    refine ite_congr rfl (fun c20_ => ?_) (fun _ => rfl)
    exact R_ireturn_i zf208_30 zr_208
-- CannonPostModel.term()I at 5
theorem q207_5 (d : Nat) (x0 : Int) (h : MH) : Run (d + 1) 207 5 [.inr (.inr (.inl 97)), .inl x0, vU, vU, vU] [] h = (if ¬ (h 97 11) = (-1) then some (some (.inl x0), h) else (cI (Run d 188 0 [.inr (.inr (.inl 97))] [] h) fun a3_ h2_ => (if a3_ = 42 then (cI (Run d 188 0 [.inr (.inr (.inl 97))] [] h2_) fun a6_ h5_ => (if ¬ a6_ = 42 then Run (d + 1) 207 45 [.inr (.inr (.inl 97)), .inl x0, vU, vU, vU] [.inl 0] h5_ else Run (d + 1) 207 45 [.inr (.inr (.inl 97)), .inl x0, vU, vU, vU] [.inl 1] h5_)) else (cI (Run d 188 0 [.inr (.inr (.inl 97))] [] h2_) fun a9_ h8_ => (if ¬ a9_ = 47 then some (some (.inl x0), h8_) else (cI (Run d 188 0 [.inr (.inr (.inl 97))] [] h8_) fun a12_ h11_ => (if ¬ a12_ = 42 then Run (d + 1) 207 45 [.inr (.inr (.inl 97)), .inl x0, vU, vU, vU] [.inl 0] h11_ else Run (d + 1) 207 45 [.inr (.inr (.inl 97)), .inl x0, vU, vU, vU] [.inl 1] h11_))))))) := by
  refine (R_aload_n zf207_5 rfl zlt_97 rfl).trans ?_
  refine (R_getI zf207_6 zo_207 zfl_12_128 zk1_97 zft_12_11 rfl).trans ?_
  refine (R_iconst zf207_9 zw_m1 rfl).trans ?_
  refine (R_icmp_ne (t := 94) zf207_10 rfl rfl).trans ?_
  refine ite_congr rfl (fun c1_ => ?_) (fun c1_ => ?_)
  · refine (R_iload_n zf207_94 rfl rfl).trans ?_
    exact R_ireturn_i zf207_95 zr_207
  · refine (R_aload_n zf207_13 rfl zlt_97 rfl).trans ?_
    refine (R_vcallI zf207_14 zo_207 zvl_12_138 (by rw [zr_188]; rfl) zl_188 (Nat.le_of_ble_eq_true rfl) rfl rfl (Nat.le_of_ble_eq_true rfl) (Nat.le_of_ble_eq_true rfl) (es := [.inr (.inr (.inl 97))]) rfl rfl zk1_97 zo_188).trans ?_
    refine congrArg (cI _) (funext fun a3_ => funext fun h2_ => ?_)
    refine (R_bipush zf207_17 zb_42 rfl).trans ?_
    refine (R_icmp_eq (t := 31) zf207_19 rfl rfl).trans ?_
    refine ite_congr rfl (fun c4_ => ?_) (fun c4_ => ?_)
    · refine (R_aload_n zf207_31 rfl zlt_97 rfl).trans ?_
      refine (R_vcallI zf207_32 zo_207 zvl_12_138 (by rw [zr_188]; rfl) zl_188 (Nat.le_of_ble_eq_true rfl) rfl rfl (Nat.le_of_ble_eq_true rfl) (Nat.le_of_ble_eq_true rfl) (es := [.inr (.inr (.inl 97))]) rfl rfl zk1_97 zo_188).trans ?_
      refine congrArg (cI _) (funext fun a6_ => funext fun h5_ => ?_)
      refine (R_bipush zf207_35 zb_42 rfl).trans ?_
      refine (R_icmp_ne (t := 44) zf207_37 rfl rfl).trans ?_
      refine ite_congr rfl (fun c7_ => ?_) (fun c7_ => ?_)
      · refine (R_iconst zf207_44 zw_0 rfl).trans ?_
        rfl
      · refine (R_iconst zf207_40 zw_1 rfl).trans ?_
        refine (R_goto (t := 45) zf207_41 rfl).trans ?_
        rfl
    · refine (R_aload_n zf207_22 rfl zlt_97 rfl).trans ?_
      refine (R_vcallI zf207_23 zo_207 zvl_12_138 (by rw [zr_188]; rfl) zl_188 (Nat.le_of_ble_eq_true rfl) rfl rfl (Nat.le_of_ble_eq_true rfl) (Nat.le_of_ble_eq_true rfl) (es := [.inr (.inr (.inl 97))]) rfl rfl zk1_97 zo_188).trans ?_
      refine congrArg (cI _) (funext fun a9_ => funext fun h8_ => ?_)
      refine (R_bipush zf207_26 zb_47 rfl).trans ?_
      refine (R_icmp_ne (t := 94) zf207_28 rfl rfl).trans ?_
      refine ite_congr rfl (fun c10_ => ?_) (fun c10_ => ?_)
      · refine (R_iload_n zf207_94 rfl rfl).trans ?_
        exact R_ireturn_i zf207_95 zr_207
      · refine (R_aload_n zf207_31 rfl zlt_97 rfl).trans ?_
        refine (R_vcallI zf207_32 zo_207 zvl_12_138 (by rw [zr_188]; rfl) zl_188 (Nat.le_of_ble_eq_true rfl) rfl rfl (Nat.le_of_ble_eq_true rfl) (Nat.le_of_ble_eq_true rfl) (es := [.inr (.inr (.inl 97))]) rfl rfl zk1_97 zo_188).trans ?_
        refine congrArg (cI _) (funext fun a12_ => funext fun h11_ => ?_)
        refine (R_bipush zf207_35 zb_42 rfl).trans ?_
        refine (R_icmp_ne (t := 44) zf207_37 rfl rfl).trans ?_
        refine ite_congr rfl (fun c13_ => ?_) (fun c13_ => ?_)
        · refine (R_iconst zf207_44 zw_0 rfl).trans ?_
          rfl
        · refine (R_iconst zf207_40 zw_1 rfl).trans ?_
          refine (R_goto (t := 45) zf207_41 rfl).trans ?_
          rfl
-- CannonPostModel.sum()I at 45
theorem q206_45 (d : Nat) (x0 : Int) (y1 : Int) (h : MH) : Run (d + 1) 206 45 [.inr (.inr (.inl 97)), .inl x0, vU, vU, vU] [.inl y1] h = (cI (Run d 207 0 [.inr (.inr (.inl 97)), vU, vU, vU, vU] [] (up h 97 10 (wI ((h 97 10) + 1)))) fun a2_ h1_ => (if y1 = 0 then (cI (Run d 210 0 [.inr (.inl (wL (x0 - a2_))), vU] [] h1_) fun a5_ h4_ => Run (d + 1) 206 5 [.inr (.inr (.inl 97)), .inl a5_, .inl y1, .inr (.inl a2_), vU] [] h4_) else (cI (Run d 210 0 [.inr (.inl (wL (x0 + a2_))), vU] [] h1_) fun a7_ h6_ => Run (d + 1) 206 5 [.inr (.inr (.inl 97)), .inl a7_, .inl y1, .inr (.inl a2_), vU] [] h6_))) := by
  refine (R_istore_n (ls' := [.inr (.inr (.inl 97)), .inl x0, .inl y1, vU, vU]) zf206_45 (Nat.le_of_ble_eq_true rfl) rfl rfl).trans ?_
  refine (R_aload_n zf206_46 rfl zlt_97 rfl).trans ?_
  refine (R_dup zf206_47 rfl rfl).trans ?_
  refine (R_getI zf206_48 zo_206 zfl_12_119 zk1_97 zft_12_10 rfl).trans ?_
  refine (R_iconst zf206_51 zw_1 rfl).trans ?_
  refine (R_iadd zf206_52 rfl).trans ?_
  refine (R_putI zf206_53 zo_206 zfl_12_119 zk1_97 zft_12_10 rfl).trans ?_
  refine (R_aload_n zf206_56 rfl zlt_97 rfl).trans ?_
  refine (R_vcallI zf206_57 zo_206 zvl_12_178 (by rw [zr_207]; rfl) zl_207 (Nat.le_of_ble_eq_true rfl) rfl rfl (Nat.le_of_ble_eq_true rfl) (Nat.le_of_ble_eq_true rfl) (es := [.inr (.inr (.inl 97)), vU, vU, vU, vU]) rfl rfl zk1_97 zo_207).trans ?_
  refine congrArg (cI _) (funext fun a2_ => funext fun h1_ => ?_)
  refine (R_i2l zf206_60 rfl).trans ?_
  refine (R_lstore_n (ls' := [.inr (.inr (.inl 97)), .inl x0, .inl y1, .inr (.inl a2_), vU]) zf206_61 (Nat.le_of_ble_eq_true rfl) rfl rfl).trans ?_
  refine (R_iload_n zf206_62 rfl rfl).trans ?_
  refine (R_if_eq (t := 73) zf206_63 rfl rfl).trans ?_
  refine ite_congr rfl (fun c3_ => ?_) (fun c3_ => ?_)
  · refine (R_iload_n zf206_73 rfl rfl).trans ?_
    refine (R_i2l zf206_74 rfl).trans ?_
    refine (R_lload_n zf206_75 rfl rfl).trans ?_
    refine (R_lsub zf206_76 rfl).trans ?_
    refine (R_callI zf206_77 zo_206 zsl_12_174 (by rw [zr_210]; rfl) zl_210 (Nat.le_of_ble_eq_true rfl) rfl rfl (Nat.le_of_ble_eq_true rfl) (Nat.le_of_ble_eq_true rfl) (es := [.inr (.inl (wL (x0 - a2_))), vU]) rfl rfl).trans ?_
    refine congrArg (cI _) (funext fun a5_ => funext fun h4_ => ?_)
    refine (R_istore_n (ls' := [.inr (.inr (.inl 97)), .inl a5_, .inl y1, .inr (.inl a2_), vU]) zf206_80 (Nat.le_of_ble_eq_true rfl) rfl rfl).trans ?_
    refine (R_goto (t := 5) zf206_81 rfl).trans ?_
    rfl
  · refine (R_iload_n zf206_66 rfl rfl).trans ?_
    refine (R_i2l zf206_67 rfl).trans ?_
    refine (R_lload_n zf206_68 rfl rfl).trans ?_
    refine (R_ladd zf206_69 rfl).trans ?_
    refine (R_goto (t := 77) zf206_70 rfl).trans ?_
    refine (R_callI zf206_77 zo_206 zsl_12_174 (by rw [zr_210]; rfl) zl_210 (Nat.le_of_ble_eq_true rfl) rfl rfl (Nat.le_of_ble_eq_true rfl) (Nat.le_of_ble_eq_true rfl) (es := [.inr (.inl (wL (x0 + a2_))), vU]) rfl rfl).trans ?_
    refine congrArg (cI _) (funext fun a7_ => funext fun h6_ => ?_)
    refine (R_istore_n (ls' := [.inr (.inr (.inl 97)), .inl a7_, .inl y1, .inr (.inl a2_), vU]) zf206_80 (Nat.le_of_ble_eq_true rfl) rfl rfl).trans ?_
    refine (R_goto (t := 5) zf206_81 rfl).trans ?_
    rfl
-- CannonPostModel.isWhole()Z at 2
theorem q198_2 (d : Nat) (x0 : Int) (h : MH) : Run d 198 2 [.inr (.inr (.inl 97)), .inl x0, vU] [] h = (if (h 97 28) ≤ x0 then Run d 198 52 [.inr (.inr (.inl 97)), .inl 0, vU] [] h else Run d 198 12 [.inr (.inr (.inl 97)), .inl x0, .inl 0] [] h) := by
  refine (R_iload_n zf198_2 rfl rfl).trans ?_
  refine (R_aload_n zf198_3 rfl zlt_97 rfl).trans ?_
  refine (R_getI zf198_4 zo_198 zfl_12_245 zk1_97 zft_12_28 rfl).trans ?_
  refine (R_icmp_ge (t := 50) zf198_7 rfl rfl).trans ?_
  refine ite_congr rfl (fun c1_ => ?_) (fun c1_ => ?_)
  · refine (R_iconst zf198_50 zw_0 rfl).trans ?_
    refine (R_istore_n (ls' := [.inr (.inr (.inl 97)), .inl 0, vU]) zf198_51 (Nat.le_of_ble_eq_true rfl) rfl rfl).trans ?_
    rfl
  · refine (R_iconst zf198_10 zw_0 rfl).trans ?_
    refine (R_istore_n (ls' := [.inr (.inr (.inl 97)), .inl x0, .inl 0]) zf198_11 (Nat.le_of_ble_eq_true rfl) rfl rfl).trans ?_
    rfl
-- CannonPostModel.readItems(I[IILjava/lang/String;)V at 0
theorem q190_0 (d : Nat) (x0 : Int) (x1 : Int) (h : MH) : Run (d + 1) 190 0 [.inr (.inr (.inl 97)), .inl x0, .inr (.inr (.inl 107)), .inl x1, .inr (.inr (.inl 129)), vU, vU] [] h = Run (d + 1) 190 3 [.inr (.inr (.inl 97)), .inl x0, .inr (.inr (.inl 107)), .inl x1, .inr (.inr (.inl 129)), .inl 0, vU] [] h := by
  refine (R_iconst zf190_0 zw_0 rfl).trans ?_
  refine (R_istore (ls' := [.inr (.inr (.inl 97)), .inl x0, .inr (.inr (.inl 107)), .inl x1, .inr (.inr (.inl 129)), .inl 0, vU]) zf190_1 (Nat.le_of_ble_eq_true rfl) rfl rfl).trans ?_
  rfl
-- CannonPostModel.readItems(I[IILjava/lang/String;)V at 0
theorem q190_0_1 (d : Nat) (x0 : Int) (x1 : Int) (h : MH) : Run (d + 1) 190 0 [.inr (.inr (.inl 97)), .inl x0, .inr (.inr (.inl 105)), .inl x1, .inr (.inr (.inl 128)), vU, vU] [] h = Run (d + 1) 190 3 [.inr (.inr (.inl 97)), .inl x0, .inr (.inr (.inl 105)), .inl x1, .inr (.inr (.inl 128)), .inl 0, vU] [] h := by
  refine (R_iconst zf190_0 zw_0 rfl).trans ?_
  refine (R_istore (ls' := [.inr (.inr (.inl 97)), .inl x0, .inr (.inr (.inl 105)), .inl x1, .inr (.inr (.inl 128)), .inl 0, vU]) zf190_1 (Nat.le_of_ble_eq_true rfl) rfl rfl).trans ?_
  rfl
-- CannonPostModel.readItems(I[IILjava/lang/String;)V at 0
theorem q190_0_2 (d : Nat) (x0 : Int) (x1 : Int) (h : MH) : Run (d + 1) 190 0 [.inr (.inr (.inl 97)), .inl x0, .inr (.inr (.inl 103)), .inl x1, .inr (.inr (.inl 127)), vU, vU] [] h = Run (d + 1) 190 3 [.inr (.inr (.inl 97)), .inl x0, .inr (.inr (.inl 103)), .inl x1, .inr (.inr (.inl 127)), .inl 0, vU] [] h := by
  refine (R_iconst zf190_0 zw_0 rfl).trans ?_
  refine (R_istore (ls' := [.inr (.inr (.inl 97)), .inl x0, .inr (.inr (.inl 103)), .inl x1, .inr (.inr (.inl 127)), .inl 0, vU]) zf190_1 (Nat.le_of_ble_eq_true rfl) rfl rfl).trans ?_
  rfl
-- CannonPostModel.text(I)I at 322
theorem q216_322 (d : Nat) (x0 : Int) (x1 : Int) (x2 : Int) (h : MH) : Run (d + 1) 216 322 [.inr (.inr (.inl 97)), .inl x0, .inl x1, .inl x2] [] h = (if (h 97 26) ≤ x2 then Run (d + 1) 216 356 [.inr (.inr (.inl 97)), .inl x0, .inl x1, .inl 0] [] h else (if 0 ≤ (wI ((wI (3 * x2)) + 2)) ∧ (wI ((wI (3 * x2)) + 2)) < 24 then (if 0 ≤ (wI (0 + x2)) ∧ (wI (0 + x2)) < 277 then Run (d + 1) 216 322 [.inr (.inr (.inl 97)), .inl x0, .inl x1, .inl (wI (x2 + 1))] [] (up h 110 (wI (0 + x2)).toNat (h 104 (wI ((wI (3 * x2)) + 2)).toNat)) else none) else none)) := by
  refine (R_iload_n zf216_322 rfl rfl).trans ?_
  refine (R_aload_n zf216_323 rfl zlt_97 rfl).trans ?_
  refine (R_getI zf216_324 zo_216 zfl_12_294 zk1_97 zft_12_26 rfl).trans ?_
  refine (R_icmp_ge (t := 354) zf216_327 rfl rfl).trans ?_
  refine ite_congr rfl (fun c1_ => ?_) (fun c1_ => ?_)
  · refine (R_iconst zf216_354 zw_0 rfl).trans ?_
    refine (R_istore_n (ls' := [.inr (.inr (.inl 97)), .inl x0, .inl x1, .inl 0]) zf216_355 (Nat.le_of_ble_eq_true rfl) rfl rfl).trans ?_
    rfl
  · refine (R_aload_n zf216_330 rfl zlt_97 rfl).trans ?_
    refine (R_getR zf216_331 zo_216 zfl_12_61 zk1_97 zft_12_32 zmr_97_32 rfl).trans ?_
    refine (R_iconst zf216_334 zw_0 rfl).trans ?_
    refine (R_iload_n zf216_335 rfl rfl).trans ?_
    refine (R_iadd zf216_336 rfl).trans ?_
    refine (R_aload_n zf216_337 rfl zlt_97 rfl).trans ?_
    refine (R_getR zf216_338 zo_216 zfl_12_43 zk1_97 zft_12_20 zmr_97_20 rfl).trans ?_
    refine (R_iconst zf216_341 zw_3 rfl).trans ?_
    refine (R_iload_n zf216_342 rfl rfl).trans ?_
    refine (R_imul zf216_343 rfl).trans ?_
    refine (R_iconst zf216_344 zw_2 rfl).trans ?_
    refine (R_iadd zf216_345 rfl).trans ?_
    refine (R_iald zf216_346 zk_104 rfl).trans ?_
    refine ite_congr rfl (fun c2_ => ?_) (fun _ => rfl)
    refine (R_iast zf216_347 zk_110 rfl).trans ?_
    refine ite_congr rfl (fun c3_ => ?_) (fun _ => rfl)
    refine (R_iinc (ls' := [.inr (.inr (.inl 97)), .inl x0, .inl x1, .inl (wI (x2 + 1))]) zf216_348 rfl rfl rfl).trans ?_
    refine (R_goto (t := 322) zf216_351 rfl).trans ?_
    rfl
-- CannonPostModel.shoots([IIIII)I at 166
theorem q230_166_3 (d : Nat) (x0 : Int) (x1 : Int) (x2 : Int) (x3 : Int) (x4 : Int) (x5 : Int) (x6 : Int) (h : MH) : Run (d + 1) 230 166 [.inr (.inr (.inl 97)), .inr (.inr (.inl 111)), .inl x0, .inl x1, .inl x2, .inl x3, .inl x4, .inl x5, .inl x6] [] h = (if 0 ≤ (wI (37 + (wI (4 * (h 111 36))))) ∧ (wI (37 + (wI (4 * (h 111 36))))) < 277 then (if 0 ≤ (wI ((wI (37 + (wI (4 * (h 111 36))))) + 1)) ∧ (wI ((wI (37 + (wI (4 * (h 111 36))))) + 1)) < 277 then (if 0 ≤ (wI ((wI (37 + (wI (4 * (h 111 36))))) + 2)) ∧ (wI ((wI (37 + (wI (4 * (h 111 36))))) + 2)) < 277 then (if 0 ≤ (wI ((wI (37 + (wI (4 * (h 111 36))))) + 3)) ∧ (wI ((wI (37 + (wI (4 * (h 111 36))))) + 3)) < 277 then some (some (.inl x5), (up (up (up (up (up h 111 (wI (37 + (wI (4 * (h 111 36))))).toNat x0) 111 (wI ((wI (37 + (wI (4 * (h 111 36))))) + 1)).toNat x4) 111 (wI ((wI (37 + (wI (4 * (h 111 36))))) + 2)).toNat x5) 111 (wI ((wI (37 + (wI (4 * (h 111 36))))) + 3)).toNat x1) 111 36 (wI (((up (up (up (up h 111 (wI (37 + (wI (4 * (h 111 36))))).toNat x0) 111 (wI ((wI (37 + (wI (4 * (h 111 36))))) + 1)).toNat x4) 111 (wI ((wI (37 + (wI (4 * (h 111 36))))) + 2)).toNat x5) 111 (wI ((wI (37 + (wI (4 * (h 111 36))))) + 3)).toNat x1) 111 36) + 1)))) else none) else none) else none) else none) := by
  refine (R_bipush zf230_166 zb_37 rfl).trans ?_
  refine (R_iconst zf230_168 zw_4 rfl).trans ?_
  refine (R_aload_n zf230_169 rfl zlt_111 rfl).trans ?_
  refine (R_bipush zf230_170 zb_36 rfl).trans ?_
  refine (R_ialdc zf230_172 zk_111 (by decide) rfl rfl).trans ?_
  refine (R_imul zf230_173 rfl).trans ?_
  refine (R_iadd zf230_174 rfl).trans ?_
  refine (R_istore (ls' := [.inr (.inr (.inl 97)), .inr (.inr (.inl 111)), .inl x0, .inl x1, .inl x2, .inl x3, .inl x4, .inl x5, .inl (wI (37 + (wI (4 * (h 111 36)))))]) zf230_175 (Nat.le_of_ble_eq_true rfl) rfl rfl).trans ?_
  refine (R_aload_n zf230_177 rfl zlt_111 rfl).trans ?_
  refine (R_iload zf230_178 rfl rfl).trans ?_
  refine (R_iload_n zf230_180 rfl rfl).trans ?_
  refine (R_iast zf230_181 zk_111 rfl).trans ?_
  refine ite_congr rfl (fun c1_ => ?_) (fun _ => rfl)
  refine (R_aload_n zf230_182 rfl zlt_111 rfl).trans ?_
  refine (R_iload zf230_183 rfl rfl).trans ?_
  refine (R_iconst zf230_185 zw_1 rfl).trans ?_
  refine (R_iadd zf230_186 rfl).trans ?_
  refine (R_iload zf230_187 rfl rfl).trans ?_
  refine (R_iast zf230_189 zk_111 rfl).trans ?_
  refine ite_congr rfl (fun c2_ => ?_) (fun _ => rfl)
  refine (R_aload_n zf230_190 rfl zlt_111 rfl).trans ?_
  refine (R_iload zf230_191 rfl rfl).trans ?_
  refine (R_iconst zf230_193 zw_2 rfl).trans ?_
  refine (R_iadd zf230_194 rfl).trans ?_
  refine (R_iload zf230_195 rfl rfl).trans ?_
  refine (R_iast zf230_197 zk_111 rfl).trans ?_
  refine ite_congr rfl (fun c3_ => ?_) (fun _ => rfl)
  refine (R_aload_n zf230_198 rfl zlt_111 rfl).trans ?_
  refine (R_iload zf230_199 rfl rfl).trans ?_
  refine (R_iconst zf230_201 zw_3 rfl).trans ?_
  refine (R_iadd zf230_202 rfl).trans ?_
  refine (R_iload_n zf230_203 rfl rfl).trans ?_
  refine (R_iast zf230_204 zk_111 rfl).trans ?_
  refine ite_congr rfl (fun c4_ => ?_) (fun _ => rfl)
  refine (R_aload_n zf230_205 rfl zlt_111 rfl).trans ?_
  refine (R_bipush zf230_206 zb_36 rfl).trans ?_
  refine (R_dup2 zf230_208 rfl rfl rfl).trans ?_
  refine (R_ialdc zf230_209 zk_111 (by decide) rfl rfl).trans ?_
  refine (R_iconst zf230_210 zw_1 rfl).trans ?_
  refine (R_iadd zf230_211 rfl).trans ?_
  refine (R_iastc zf230_212 zk_111 (by decide) rfl rfl).trans ?_
  refine (R_iload zf230_213 rfl rfl).trans ?_
  exact R_ireturn_i zf230_215 zr_230
-- CannonPostModel.layAims(I)V at 39
theorem q264_39_1 (d : Nat) (x0 : Int) (x1 : Int) (x2 : Int) (x3 : Int) (h : MH) : Run (d + 1) 264 39 [.inr (.inr (.inl 97)), .inl x0, .inl x1, .inl x2, .inl x3, vU] [] h = (if x2 ≤ 0 then Run (d + 1) 264 28 [.inr (.inr (.inl 97)), .inl x0, .inl (wI (x1 + 1)), .inl x2, .inl x3, vU] [] h else Run (d + 1) 264 46 [.inr (.inr (.inl 97)), .inl x0, .inl x1, .inl x2, .inl 0, vU] [] h) := by
  refine (R_iload_n zf264_39 rfl rfl).trans ?_
  refine (R_if_le (t := 145) zf264_40 rfl rfl).trans ?_
  refine ite_congr rfl (fun c1_ => ?_) (fun c1_ => ?_)
  · refine (R_iinc (ls' := [.inr (.inr (.inl 97)), .inl x0, .inl (wI (x1 + 1)), .inl x2, .inl x3, vU]) zf264_145 rfl rfl rfl).trans ?_
    refine (R_goto (t := 28) zf264_148 rfl).trans ?_
    rfl
  · refine (R_iconst zf264_43 zw_0 rfl).trans ?_
    refine (R_istore (ls' := [.inr (.inr (.inl 97)), .inl x0, .inl x1, .inl x2, .inl 0, vU]) zf264_44 (Nat.le_of_ble_eq_true rfl) rfl rfl).trans ?_
    rfl
-- CannonPostModel.layAims(I)V at 46
theorem q264_46_1 (d : Nat) (x0 : Int) (x1 : Int) (x2 : Int) (x3 : Int) (x4 : Int) (h : MH) : Run (d + 1) 264 46 [.inr (.inr (.inl 97)), .inl x0, .inl x1, .inl x2, .inl x3, .inl x4] [] h = (if 2 ≤ x3 then Run (d + 1) 264 39 [.inr (.inr (.inl 97)), .inl x0, .inl x1, .inl (wI (x2 + (-1))), .inl x3, .inl x4] [] h else (cI (Run d 231 0 [.inr (.inr (.inl 97)), .inr (.inr (.inl 110)), .inl x0, .inl x1, .inl x2, .inl x3] [] h) fun a3_ h2_ => (cI (Run d 235 0 [.inr (.inr (.inl 97)), .inl a3_, vU] [] h2_) fun a5_ h4_ => (if a5_ = (-1) then Run (d + 1) 264 46 [.inr (.inr (.inl 97)), .inl x0, .inl x1, .inl x2, .inl (wI (x3 + 1)), .inl a5_] [] h4_ else (if a5_ = x1 then Run (d + 1) 264 46 [.inr (.inr (.inl 97)), .inl x0, .inl x1, .inl x2, .inl (wI (x3 + 1)), .inl a5_] [] h4_ else (cI (Run d 234 0 [.inr (.inr (.inl 97)), .inl a5_] [] h4_) fun a9_ h8_ => (cI (Run d 234 0 [.inr (.inr (.inl 97)), .inl x1] [] h8_) fun a11_ h10_ => (if a9_ ≤ a11_ then (if ¬ x3 = 0 then Run (d + 1) 264 112 [.inr (.inr (.inl 97)), .inl x0, .inl x1, .inl x2, .inl x3, .inl a5_] [.inl 0, .inl 0] h10_ else Run (d + 1) 264 112 [.inr (.inr (.inl 97)), .inl x0, .inl x1, .inl x2, .inl x3, .inl a5_] [.inl 1, .inl 0] h10_) else (if ¬ x3 = 0 then Run (d + 1) 264 112 [.inr (.inr (.inl 97)), .inl x0, .inl x1, .inl x2, .inl x3, .inl a5_] [.inl 0, .inl 1] h10_ else Run (d + 1) 264 112 [.inr (.inr (.inl 97)), .inl x0, .inl x1, .inl x2, .inl x3, .inl a5_] [.inl 1, .inl 1] h10_))))))))) := by
  refine (R_iload zf264_46 rfl rfl).trans ?_
  refine (R_iconst zf264_48 zw_2 rfl).trans ?_
  refine (R_icmp_ge (t := 139) zf264_49 rfl rfl).trans ?_
  refine ite_congr rfl (fun c1_ => ?_) (fun c1_ => ?_)
  · refine (R_iinc (ls' := [.inr (.inr (.inl 97)), .inl x0, .inl x1, .inl (wI (x2 + (-1))), .inl x3, .inl x4]) zf264_139 rfl rfl rfl).trans ?_
    refine (R_goto (t := 39) zf264_142 rfl).trans ?_
    rfl
  · refine (R_aload_n zf264_52 rfl zlt_97 rfl).trans ?_
    refine (R_aload_n zf264_53 rfl zlt_97 rfl).trans ?_
    refine (R_aload_n zf264_54 rfl zlt_97 rfl).trans ?_
    refine (R_getR zf264_55 zo_264 zfl_12_61 zk1_97 zft_12_32 zmr_97_32 rfl).trans ?_
    refine (R_iload_n zf264_58 rfl rfl).trans ?_
    refine (R_iload_n zf264_59 rfl rfl).trans ?_
    refine (R_iload_n zf264_60 rfl rfl).trans ?_
    refine (R_iload zf264_61 rfl rfl).trans ?_
    refine (R_vcallI zf264_63 zo_264 zvl_12_348 (by rw [zr_231]; rfl) zl_231 (Nat.le_of_ble_eq_true rfl) rfl rfl (Nat.le_of_ble_eq_true rfl) (Nat.le_of_ble_eq_true rfl) (es := [.inr (.inr (.inl 97)), .inr (.inr (.inl 110)), .inl x0, .inl x1, .inl x2, .inl x3]) rfl rfl zk1_97 zo_231).trans ?_
    refine congrArg (cI _) (funext fun a3_ => funext fun h2_ => ?_)
    refine (R_vcallI zf264_66 zo_264 zvl_12_352 (by rw [zr_235]; rfl) zl_235 (Nat.le_of_ble_eq_true rfl) rfl rfl (Nat.le_of_ble_eq_true rfl) (Nat.le_of_ble_eq_true rfl) (es := [.inr (.inr (.inl 97)), .inl a3_, vU]) rfl rfl zk1_97 zo_235).trans ?_
    refine congrArg (cI _) (funext fun a5_ => funext fun h4_ => ?_)
    refine (R_istore (ls' := [.inr (.inr (.inl 97)), .inl x0, .inl x1, .inl x2, .inl x3, .inl a5_]) zf264_69 (Nat.le_of_ble_eq_true rfl) rfl rfl).trans ?_
    refine (R_iload zf264_71 rfl rfl).trans ?_
    refine (R_iconst zf264_73 zw_m1 rfl).trans ?_
    refine (R_icmp_eq (t := 133) zf264_74 rfl rfl).trans ?_
    refine ite_congr rfl (fun c6_ => ?_) (fun c6_ => ?_)
    · refine (R_iinc (ls' := [.inr (.inr (.inl 97)), .inl x0, .inl x1, .inl x2, .inl (wI (x3 + 1)), .inl a5_]) zf264_133 rfl rfl rfl).trans ?_
      refine (R_goto (t := 46) zf264_136 rfl).trans ?_
      rfl
    · refine (R_iload zf264_77 rfl rfl).trans ?_
      refine (R_iload_n zf264_79 rfl rfl).trans ?_
      refine (R_icmp_eq (t := 133) zf264_80 rfl rfl).trans ?_
      refine ite_congr rfl (fun c7_ => ?_) (fun c7_ => ?_)
      · refine (R_iinc (ls' := [.inr (.inr (.inl 97)), .inl x0, .inl x1, .inl x2, .inl (wI (x3 + 1)), .inl a5_]) zf264_133 rfl rfl rfl).trans ?_
        refine (R_goto (t := 46) zf264_136 rfl).trans ?_
        rfl
      · refine (R_aload_n zf264_83 rfl zlt_97 rfl).trans ?_
        refine (R_iload zf264_84 rfl rfl).trans ?_
        refine (R_vcallI zf264_86 zo_264 zvl_12_326 (by rw [zr_234]; rfl) zl_234 (Nat.le_of_ble_eq_true rfl) rfl rfl (Nat.le_of_ble_eq_true rfl) (Nat.le_of_ble_eq_true rfl) (es := [.inr (.inr (.inl 97)), .inl a5_]) rfl rfl zk1_97 zo_234).trans ?_
        refine congrArg (cI _) (funext fun a9_ => funext fun h8_ => ?_)
        refine (R_aload_n zf264_89 rfl zlt_97 rfl).trans ?_
        refine (R_iload_n zf264_90 rfl rfl).trans ?_
        refine (R_vcallI zf264_91 zo_264 zvl_12_326 (by rw [zr_234]; rfl) zl_234 (Nat.le_of_ble_eq_true rfl) rfl rfl (Nat.le_of_ble_eq_true rfl) (Nat.le_of_ble_eq_true rfl) (es := [.inr (.inr (.inl 97)), .inl x1]) rfl rfl zk1_97 zo_234).trans ?_
        refine congrArg (cI _) (funext fun a11_ => funext fun h10_ => ?_)
        refine (R_icmp_le (t := 101) zf264_94 rfl rfl).trans ?_
        refine ite_congr rfl (fun c12_ => ?_) (fun c12_ => ?_)
        · refine (R_iconst zf264_101 zw_0 rfl).trans ?_
          refine (R_iload zf264_102 rfl rfl).trans ?_
          refine (R_if_ne (t := 111) zf264_104 rfl rfl).trans ?_
          refine ite_congr rfl (fun c13_ => ?_) (fun c13_ => ?_)
          · refine (R_iconst zf264_111 zw_0 rfl).trans ?_
            rfl
          · refine (R_iconst zf264_107 zw_1 rfl).trans ?_
            refine (R_goto (t := 112) zf264_108 rfl).trans ?_
            rfl
        · refine (R_iconst zf264_97 zw_1 rfl).trans ?_
          refine (R_goto (t := 102) zf264_98 rfl).trans ?_
          refine (R_iload zf264_102 rfl rfl).trans ?_
          refine (R_if_ne (t := 111) zf264_104 rfl rfl).trans ?_
          refine ite_congr rfl (fun c14_ => ?_) (fun c14_ => ?_)
          · refine (R_iconst zf264_111 zw_0 rfl).trans ?_
            rfl
          · refine (R_iconst zf264_107 zw_1 rfl).trans ?_
            refine (R_goto (t := 112) zf264_108 rfl).trans ?_
            rfl
-- CannonPostModel.layAims(I)V at 112
theorem q264_112 (d : Nat) (x0 : Int) (x1 : Int) (x2 : Int) (x3 : Int) (x4 : Int) (y5 : Int) (y6 : Int) (h : MH) : Run (d + 1) 264 112 [.inr (.inr (.inl 97)), .inl x0, .inl x1, .inl x2, .inl x3, .inl x4] [.inl y5, .inl y6] h = (if ¬ y6 = y5 then Run (d + 1) 264 46 [.inr (.inr (.inl 97)), .inl x0, .inl x1, .inl x2, .inl (wI (x3 + 1)), .inl x4] [] h else (if 0 ≤ (wI ((wI (8 * (wI ((wI (8 * x0)) + x1)))) + x4)) ∧ (wI ((wI (8 * (wI ((wI (8 * x0)) + x1)))) + x4)) < 320 then Run (d + 1) 264 46 [.inr (.inr (.inl 97)), .inl x0, .inl x1, .inl x2, .inl (wI (x3 + 1)), .inl x4] [] (up h 113 (wI ((wI (8 * (wI ((wI (8 * x0)) + x1)))) + x4)).toNat x2) else none)) := by
  refine (R_icmp_ne (t := 133) zf264_112 rfl rfl).trans ?_
  refine ite_congr rfl (fun c1_ => ?_) (fun c1_ => ?_)
  · refine (R_iinc (ls' := [.inr (.inr (.inl 97)), .inl x0, .inl x1, .inl x2, .inl (wI (x3 + 1)), .inl x4]) zf264_133 rfl rfl rfl).trans ?_
    refine (R_goto (t := 46) zf264_136 rfl).trans ?_
    rfl
  · refine (R_aload_n zf264_115 rfl zlt_97 rfl).trans ?_
    refine (R_getR zf264_116 zo_264 zfl_12_74 zk1_97 zft_12_39 zmr_97_39 rfl).trans ?_
    refine (R_bipush zf264_119 zb_8 rfl).trans ?_
    refine (R_bipush zf264_121 zb_8 rfl).trans ?_
    refine (R_iload_n zf264_123 rfl rfl).trans ?_
    refine (R_imul zf264_124 rfl).trans ?_
    refine (R_iload_n zf264_125 rfl rfl).trans ?_
    refine (R_iadd zf264_126 rfl).trans ?_
    refine (R_imul zf264_127 rfl).trans ?_
    refine (R_iload zf264_128 rfl rfl).trans ?_
    refine (R_iadd zf264_130 rfl).trans ?_
    refine (R_iload_n zf264_131 rfl rfl).trans ?_
    refine (R_iast zf264_132 zk_113 rfl).trans ?_
    refine ite_congr rfl (fun c2_ => ?_) (fun _ => rfl)
    refine (R_iinc (ls' := [.inr (.inr (.inl 97)), .inl x0, .inl x1, .inl x2, .inl (wI (x3 + 1)), .inl x4]) zf264_133 rfl rfl rfl).trans ?_
    refine (R_goto (t := 46) zf264_136 rfl).trans ?_
    rfl
-- CannonPostModel.canKnow(III)Z at 19
theorem q276_19 (d : Nat) (x0 : Int) (x1 : Int) (x2 : Int) (x3 : Int) (h : MH) : Run (d + 1) 276 19 [.inr (.inr (.inl 97)), .inl x0, .inl x1, .inl x2, .inl x3, vU] [] h = (if (h 97 27) ≤ x3 then some (some (.inl 0), h) else Run (d + 1) 276 31 [.inr (.inr (.inl 97)), .inl x0, .inl x1, .inl x2, .inl x3, .inl 0] [] h) := by
  refine (R_iload zf276_19 rfl rfl).trans ?_
  refine (R_aload_n zf276_21 rfl zlt_97 rfl).trans ?_
  refine (R_getI zf276_22 zo_276 zfl_12_297 zk1_97 zft_12_27 rfl).trans ?_
  refine (R_icmp_ge (t := 81) zf276_25 rfl rfl).trans ?_
  refine ite_congr rfl (fun c1_ => ?_) (fun c1_ => ?_)
  · refine (R_iconst zf276_81 zw_0 rfl).trans ?_
    exact R_ireturn zf276_82 (by rw [zr_276]; rfl)
  · refine (R_iconst zf276_28 zw_0 rfl).trans ?_
    refine (R_istore (ls' := [.inr (.inr (.inl 97)), .inl x0, .inl x1, .inl x2, .inl x3, .inl 0]) zf276_29 (Nat.le_of_ble_eq_true rfl) rfl rfl).trans ?_
    rfl
-- CannonPostModel.ask(II)I at 85
theorem q280_85_1 (d : Nat) (x0 : Int) (x1 : Int) (x2 : Int) (x3 : Int) (x4 : Int) (x5 : Int) (x6 : Int) (x7 : Int) (x8 : Int) (h : MH) : Run (d + 1) 280 85 [.inr (.inr (.inl 97)), .inl x0, .inl x1, .inl x2, .inl x3, .inl x4, .inl x5, .inl x6, .inl x7, .inl x8, vU] [] h = (if 20 < x6 then Run (d + 1) 280 76 [.inr (.inr (.inl 97)), .inl x0, .inl x1, .inl x2, .inl x3, .inl x4, .inl (wI (x5 + 1)), .inl x6, .inl x7, .inl x8, vU] [] h else Run (d + 1) 280 95 [.inr (.inr (.inl 97)), .inl x0, .inl x1, .inl x2, .inl x3, .inl x4, .inl x5, .inl x6, .inl 0, .inl x8, vU] [] h) := by
  refine (R_iload zf280_85 rfl rfl).trans ?_
  refine (R_bipush zf280_87 zb_20 rfl).trans ?_
  refine (R_icmp_gt (t := 243) zf280_89 rfl rfl).trans ?_
  refine ite_congr rfl (fun c1_ => ?_) (fun c1_ => ?_)
  · refine (R_iinc (ls' := [.inr (.inr (.inl 97)), .inl x0, .inl x1, .inl x2, .inl x3, .inl x4, .inl (wI (x5 + 1)), .inl x6, .inl x7, .inl x8, vU]) zf280_243 rfl rfl rfl).trans ?_
    refine (R_goto (t := 76) zf280_246 rfl).trans ?_
    rfl
  · refine (R_iconst zf280_92 zw_0 rfl).trans ?_
    refine (R_istore (ls' := [.inr (.inr (.inl 97)), .inl x0, .inl x1, .inl x2, .inl x3, .inl x4, .inl x5, .inl x6, .inl 0, .inl x8, vU]) zf280_93 (Nat.le_of_ble_eq_true rfl) rfl rfl).trans ?_
    rfl
-- CannonPostModel.ask(II)I at 125
theorem q280_125_1 (d : Nat) (x0 : Int) (x1 : Int) (x2 : Int) (x3 : Int) (x4 : Int) (x5 : Int) (x6 : Int) (x7 : Int) (x8 : Int) (x9 : Int) (h : MH) : Run (d + 1) 280 125 [.inr (.inr (.inl 97)), .inl x0, .inl x1, .inl x2, .inl x3, .inl x4, .inl x5, .inl x6, .inl x7, .inl x8, .inl x9] [] h = (if 20 ≤ x8 then (if x3 = (-1) then Run (d + 1) 280 85 [.inr (.inr (.inl 97)), .inl x0, .inl x1, .inl x2, .inl (wI ((wI (100 * x5)) + x6)), .inl x7, .inl x5, .inl (wI (x6 + 1)), .inl x7, .inl x8, .inl x9] [] h else (if x7 < x4 then Run (d + 1) 280 85 [.inr (.inr (.inl 97)), .inl x0, .inl x1, .inl x2, .inl (wI ((wI (100 * x5)) + x6)), .inl x7, .inl x5, .inl (wI (x6 + 1)), .inl x7, .inl x8, .inl x9] [] h else Run (d + 1) 280 85 [.inr (.inr (.inl 97)), .inl x0, .inl x1, .inl x2, .inl x3, .inl x4, .inl x5, .inl (wI (x6 + 1)), .inl x7, .inl x8, .inl x9] [] h)) else (cI (Run d 192 0 [.inl x2, .inl x8] [] h) fun a5_ h4_ => (if ¬ a5_ = 0 then (cI (Run d 232 0 [.inr (.inr (.inl 97)), .inl x0, .inl x1, .inl x6, .inl x5, .inl (x8.tmod 10), .inl (wI (x8.tdiv 10)), .inl 0, vU] [] h4_) fun a8_ h7_ => (cI (Run d 234 0 [.inr (.inr (.inl 97)), .inl x1] [] h7_) fun a10_ h9_ => (if 0 ≤ (ab (wI (a8_ - a10_))) ∧ (ab (wI (a8_ - a10_))) < 128 then (if 0 ≤ (ab (wI (a8_ - a10_))) ∧ (ab (wI (a8_ - a10_))) < 128 then (if 0 ≤ (ab (wI (a8_ - a10_))) ∧ (ab (wI (a8_ - a10_))) < 128 then Run (d + 1) 280 125 [.inr (.inr (.inl 97)), .inl x0, .inl x1, .inl x2, .inl x3, .inl x4, .inl x5, .inl x6, .inl (mx x7 ((up h9_ 116 (ab (wI (a8_ - a10_))).toNat (wI ((h9_ 116 (ab (wI (a8_ - a10_))).toNat) + 1))) 116 (ab (wI (a8_ - a10_))).toNat)), .inl (wI (x8 + 1)), .inl (ab (wI (a8_ - a10_)))] [] (up h9_ 116 (ab (wI (a8_ - a10_))).toNat (wI ((h9_ 116 (ab (wI (a8_ - a10_))).toNat) + 1))) else none) else none) else none))) else Run (d + 1) 280 125 [.inr (.inr (.inl 97)), .inl x0, .inl x1, .inl x2, .inl x3, .inl x4, .inl x5, .inl x6, .inl x7, .inl (wI (x8 + 1)), .inl x9] [] h4_))) := by
  refine (R_iload zf280_125 rfl rfl).trans ?_
  refine (R_bipush zf280_127 zb_20 rfl).trans ?_
  refine (R_icmp_ge (t := 207) zf280_129 rfl rfl).trans ?_
  refine ite_congr rfl (fun c1_ => ?_) (fun c1_ => ?_)
  · refine (R_iload zf280_207 rfl rfl).trans ?_
    refine (R_iconst zf280_209 zw_m1 rfl).trans ?_
    refine (R_icmp_eq (t := 223) zf280_210 rfl rfl).trans ?_
    refine ite_congr rfl (fun c2_ => ?_) (fun c2_ => ?_)
    · refine (R_bipush zf280_223 zb_100 rfl).trans ?_
      refine (R_iload zf280_225 rfl rfl).trans ?_
      refine (R_imul zf280_227 rfl).trans ?_
      refine (R_iload zf280_228 rfl rfl).trans ?_
      refine (R_iadd zf280_230 rfl).trans ?_
      refine (R_istore (ls' := [.inr (.inr (.inl 97)), .inl x0, .inl x1, .inl x2, .inl (wI ((wI (100 * x5)) + x6)), .inl x4, .inl x5, .inl x6, .inl x7, .inl x8, .inl x9]) zf280_231 (Nat.le_of_ble_eq_true rfl) rfl rfl).trans ?_
      refine (R_iload zf280_233 rfl rfl).trans ?_
      refine (R_istore (ls' := [.inr (.inr (.inl 97)), .inl x0, .inl x1, .inl x2, .inl (wI ((wI (100 * x5)) + x6)), .inl x7, .inl x5, .inl x6, .inl x7, .inl x8, .inl x9]) zf280_235 (Nat.le_of_ble_eq_true rfl) rfl rfl).trans ?_
      refine (R_iinc (ls' := [.inr (.inr (.inl 97)), .inl x0, .inl x1, .inl x2, .inl (wI ((wI (100 * x5)) + x6)), .inl x7, .inl x5, .inl (wI (x6 + 1)), .inl x7, .inl x8, .inl x9]) zf280_237 rfl rfl rfl).trans ?_
      refine (R_goto (t := 85) zf280_240 rfl).trans ?_
      rfl
    · refine (R_iload zf280_213 rfl rfl).trans ?_
      refine (R_iload zf280_215 rfl rfl).trans ?_
      refine (R_icmp_lt (t := 223) zf280_217 rfl rfl).trans ?_
      refine ite_congr rfl (fun c3_ => ?_) (fun c3_ => ?_)
      · refine (R_bipush zf280_223 zb_100 rfl).trans ?_
        refine (R_iload zf280_225 rfl rfl).trans ?_
        refine (R_imul zf280_227 rfl).trans ?_
        refine (R_iload zf280_228 rfl rfl).trans ?_
        refine (R_iadd zf280_230 rfl).trans ?_
        refine (R_istore (ls' := [.inr (.inr (.inl 97)), .inl x0, .inl x1, .inl x2, .inl (wI ((wI (100 * x5)) + x6)), .inl x4, .inl x5, .inl x6, .inl x7, .inl x8, .inl x9]) zf280_231 (Nat.le_of_ble_eq_true rfl) rfl rfl).trans ?_
        refine (R_iload zf280_233 rfl rfl).trans ?_
        refine (R_istore (ls' := [.inr (.inr (.inl 97)), .inl x0, .inl x1, .inl x2, .inl (wI ((wI (100 * x5)) + x6)), .inl x7, .inl x5, .inl x6, .inl x7, .inl x8, .inl x9]) zf280_235 (Nat.le_of_ble_eq_true rfl) rfl rfl).trans ?_
        refine (R_iinc (ls' := [.inr (.inr (.inl 97)), .inl x0, .inl x1, .inl x2, .inl (wI ((wI (100 * x5)) + x6)), .inl x7, .inl x5, .inl (wI (x6 + 1)), .inl x7, .inl x8, .inl x9]) zf280_237 rfl rfl rfl).trans ?_
        refine (R_goto (t := 85) zf280_240 rfl).trans ?_
        rfl
      · refine (R_goto (t := 237) zf280_220 rfl).trans ?_
        refine (R_iinc (ls' := [.inr (.inr (.inl 97)), .inl x0, .inl x1, .inl x2, .inl x3, .inl x4, .inl x5, .inl (wI (x6 + 1)), .inl x7, .inl x8, .inl x9]) zf280_237 rfl rfl rfl).trans ?_
        refine (R_goto (t := 85) zf280_240 rfl).trans ?_
        rfl
  · refine (R_iload_n zf280_132 rfl rfl).trans ?_
    refine (R_iload zf280_133 rfl rfl).trans ?_
    refine (R_callI zf280_135 zo_280 zsl_12_229 (by rw [zr_192]; rfl) zl_192 (Nat.le_of_ble_eq_true rfl) rfl rfl (Nat.le_of_ble_eq_true rfl) (Nat.le_of_ble_eq_true rfl) (es := [.inl x2, .inl x8]) rfl rfl).trans ?_
    refine congrArg (cI _) (funext fun a5_ => funext fun h4_ => ?_)
    refine (R_if_ne (t := 144) zf280_138 rfl rfl).trans ?_
    refine ite_congr rfl (fun c6_ => ?_) (fun c6_ => ?_)
    · refine (R_aload_n zf280_144 rfl zlt_97 rfl).trans ?_
      refine (R_iload_n zf280_145 rfl rfl).trans ?_
      refine (R_iload_n zf280_146 rfl rfl).trans ?_
      refine (R_iload zf280_147 rfl rfl).trans ?_
      refine (R_iload zf280_149 rfl rfl).trans ?_
      refine (R_iload zf280_151 rfl rfl).trans ?_
      refine (R_bipush zf280_153 zb_10 rfl).trans ?_
      refine (R_irem zf280_155 (by decide) rfl).trans ?_
      refine (R_iload zf280_156 rfl rfl).trans ?_
      refine (R_bipush zf280_158 zb_10 rfl).trans ?_
      refine (R_idiv zf280_160 (by decide) rfl).trans ?_
      refine (R_iconst zf280_161 zw_0 rfl).trans ?_
      refine (R_vcallI zf280_162 zo_280 zvl_12_329 (by rw [zr_232]; rfl) zl_232 (Nat.le_of_ble_eq_true rfl) rfl rfl (Nat.le_of_ble_eq_true rfl) (Nat.le_of_ble_eq_true rfl) (es := [.inr (.inr (.inl 97)), .inl x0, .inl x1, .inl x6, .inl x5, .inl (x8.tmod 10), .inl (wI (x8.tdiv 10)), .inl 0, vU]) rfl rfl zk1_97 zo_232).trans ?_
      refine congrArg (cI _) (funext fun a8_ => funext fun h7_ => ?_)
      refine (R_aload_n zf280_165 rfl zlt_97 rfl).trans ?_
      refine (R_iload_n zf280_166 rfl rfl).trans ?_
      refine (R_vcallI zf280_167 zo_280 zvl_12_326 (by rw [zr_234]; rfl) zl_234 (Nat.le_of_ble_eq_true rfl) rfl rfl (Nat.le_of_ble_eq_true rfl) (Nat.le_of_ble_eq_true rfl) (es := [.inr (.inr (.inl 97)), .inl x1]) rfl rfl zk1_97 zo_234).trans ?_
      refine congrArg (cI _) (funext fun a10_ => funext fun h9_ => ?_)
      refine (R_isub zf280_170 rfl).trans ?_
      refine (R_mabs zf280_171 zo_280 zsl_12_333 zml_12_333 zna_12_333 (Nat.le_of_ble_eq_true rfl) rfl).trans ?_
      refine (R_istore (ls' := [.inr (.inr (.inl 97)), .inl x0, .inl x1, .inl x2, .inl x3, .inl x4, .inl x5, .inl x6, .inl x7, .inl x8, .inl (ab (wI (a8_ - a10_)))]) zf280_174 (Nat.le_of_ble_eq_true rfl) rfl rfl).trans ?_
      refine (R_aload_n zf280_176 rfl zlt_97 rfl).trans ?_
      refine (R_getR zf280_177 zo_280 zfl_12_83 zk1_97 zft_12_45 zmr_97_45 rfl).trans ?_
      refine (R_iload zf280_180 rfl rfl).trans ?_
      refine (R_dup2 zf280_182 rfl rfl rfl).trans ?_
      refine (R_iald zf280_183 zk_116 rfl).trans ?_
      refine ite_congr rfl (fun c11_ => ?_) (fun _ => rfl)
      refine (R_iconst zf280_184 zw_1 rfl).trans ?_
      refine (R_iadd zf280_185 rfl).trans ?_
      refine (R_iast zf280_186 zk_116 rfl).trans ?_
      refine ite_congr rfl (fun c12_ => ?_) (fun _ => rfl)
      refine (R_iload zf280_187 rfl rfl).trans ?_
      refine (R_aload_n zf280_189 rfl zlt_97 rfl).trans ?_
      refine (R_getR zf280_190 zo_280 zfl_12_83 zk1_97 zft_12_45 zmr_97_45 rfl).trans ?_
      refine (R_iload zf280_193 rfl rfl).trans ?_
      refine (R_iald zf280_195 zk_116 rfl).trans ?_
      refine ite_congr rfl (fun c13_ => ?_) (fun _ => rfl)
      refine (R_mmax zf280_196 zo_280 zsl_12_320 zml_12_320 zna_12_320 (Nat.le_of_ble_eq_true rfl) rfl).trans ?_
      refine (R_istore (ls' := [.inr (.inr (.inl 97)), .inl x0, .inl x1, .inl x2, .inl x3, .inl x4, .inl x5, .inl x6, .inl (mx x7 ((up h9_ 116 (ab (wI (a8_ - a10_))).toNat (wI ((h9_ 116 (ab (wI (a8_ - a10_))).toNat) + 1))) 116 (ab (wI (a8_ - a10_))).toNat)), .inl x8, .inl (ab (wI (a8_ - a10_)))]) zf280_199 (Nat.le_of_ble_eq_true rfl) rfl rfl).trans ?_
      refine (R_iinc (ls' := [.inr (.inr (.inl 97)), .inl x0, .inl x1, .inl x2, .inl x3, .inl x4, .inl x5, .inl x6, .inl (mx x7 ((up h9_ 116 (ab (wI (a8_ - a10_))).toNat (wI ((h9_ 116 (ab (wI (a8_ - a10_))).toNat) + 1))) 116 (ab (wI (a8_ - a10_))).toNat)), .inl (wI (x8 + 1)), .inl (ab (wI (a8_ - a10_)))]) zf280_201 rfl rfl rfl).trans ?_
      refine (R_goto (t := 125) zf280_204 rfl).trans ?_
      rfl
    · refine (R_goto (t := 201) zf280_141 rfl).trans ?_
      refine (R_iinc (ls' := [.inr (.inr (.inl 97)), .inl x0, .inl x1, .inl x2, .inl x3, .inl x4, .inl x5, .inl x6, .inl x7, .inl (wI (x8 + 1)), .inl x9]) zf280_201 rfl rfl rfl).trans ?_
      refine (R_goto (t := 125) zf280_204 rfl).trans ?_
      rfl
