/-! the methods as equations of Run: CannonPost.aim=123, CannonPost.ask=153, CannonPost.back=112, CannonPost.best=170, CannonPost.carrier=176, CannonPost.count=67, CannonPost.cuts=138, CannonPost.damp=97, CannonPost.damps=66, CannonPost.decades=101, CannonPost.end=3, CannonPost.face=156, CannonPost.fault=4, CannonPost.feed=0, CannonPost.following=162, CannonPost.fort=63, CannonPost.free=173, CannonPost.game=164, CannonPost.grind=94, CannonPost.gusts=142, CannonPost.hays=169, CannonPost.hear=90, CannonPost.home=174, CannonPost.hours=98, CannonPost.image=110, CannonPost.known=175, CannonPost.lands=121, CannonPost.law=65, CannonPost.log=108, CannonPost.meant=159, CannonPost.net=141, CannonPost.passing=144, CannonPost.perform=120, CannonPost.relay=130, CannonPost.rests=167, CannonPost.route=127, CannonPost.rule=60, CannonPost.run=116, CannonPost.seen=146, CannonPost.shoot=70, CannonPost.stack=93, CannonPost.step=113, CannonPost.stock=168, CannonPost.sure=135, CannonPost.surest=137, CannonPost.text=44, CannonPost.undo=106, CannonPost.wind=95, CannonPost.winds=149, CannonPostModel.aim=263, CannonPostModel.carrier=221, CannonPostModel.damp=244, CannonPostModel.damps=225, CannonPostModel.decades=248, CannonPostModel.end=181, CannonPostModel.fault=182, CannonPostModel.feed=178, CannonPostModel.fort=219, CannonPostModel.grind=240, CannonPostModel.hear=237, CannonPostModel.hours=245, CannonPostModel.lands=261, CannonPostModel.law=224, CannonPostModel.log=252, CannonPostModel.perform=260, CannonPostModel.relay=272, CannonPostModel.route=266, CannonPostModel.rule=218, CannonPostModel.run=255, CannonPostModel.shoot=226, CannonPostModel.stack=239, CannonPostModel.step=253, CannonPostModel.sure=269, CannonPostModel.surest=271, CannonPostModel.text=216, CannonPostModel.thrown=177, CannonPostModel.undo=251, CannonPostModel.wind=241 -/
-- CannonPost.feed(IIIII)I at 0
theorem q0_0 (d : Nat) (x0 : Int) (x1 : Int) (x2 : Int) (x3 : Int) (x4 : Int) (h : MH) : Run (d + 1) 0 0 [.inr (.inr (.inl 0)), .inl x0, .inl x1, .inl x2, .inl x3, .inl x4, vU] [] h = (cI (Run d 1 0 [.inl x0, vU, vU] [] h) fun a2_ h1_ => (cI (Run d 1 0 [.inl x1, vU, vU] [] h1_) fun a4_ h3_ => (cI (Run d 1 0 [.inl x2, vU, vU] [] h3_) fun a6_ h5_ => (cI (Run d 1 0 [.inl x3, vU, vU] [] h5_) fun a8_ h7_ => (cI (Run d 1 0 [.inl x4, vU, vU] [] h7_) fun a10_ h9_ => (if (wI ((h9_ 1 1) + (wI ((wI ((wI ((wI (a2_ + a4_)) + a6_)) + a8_)) + a10_)))) ≤ 240 then (cV (Run d 2 0 [.inr (.inr (.inl 1)), .inl x0, vU, vU] [] h9_) fun h12_ => (cV (Run d 2 0 [.inr (.inr (.inl 1)), .inl x1, vU, vU] [] h12_) fun h13_ => (cV (Run d 2 0 [.inr (.inr (.inl 1)), .inl x2, vU, vU] [] h13_) fun h14_ => (cV (Run d 2 0 [.inr (.inr (.inl 1)), .inl x3, vU, vU] [] h14_) fun h15_ => (cV (Run d 2 0 [.inr (.inr (.inl 1)), .inl x4, vU, vU] [] h15_) fun h16_ => some (some (.inl (h16_ 1 1)), h16_)))))) else some (some (.inl (-1)), h9_))))))) := by
  refine (R_iload_n zf0_0 rfl rfl).trans ?_
  refine (R_callI zf0_1 zo_0 zsl_11_98 (by rw [zr_1]; rfl) zl_1 (Nat.le_of_ble_eq_true rfl) rfl rfl (Nat.le_of_ble_eq_true rfl) (Nat.le_of_ble_eq_true rfl) (es := [.inl x0, vU, vU]) rfl rfl).trans ?_
  refine congrArg (cI _) (funext fun a2_ => funext fun h1_ => ?_)
  refine (R_iload_n zf0_4 rfl rfl).trans ?_
  refine (R_callI zf0_5 zo_0 zsl_11_98 (by rw [zr_1]; rfl) zl_1 (Nat.le_of_ble_eq_true rfl) rfl rfl (Nat.le_of_ble_eq_true rfl) (Nat.le_of_ble_eq_true rfl) (es := [.inl x1, vU, vU]) rfl rfl).trans ?_
  refine congrArg (cI _) (funext fun a4_ => funext fun h3_ => ?_)
  refine (R_iadd zf0_8 rfl).trans ?_
  refine (R_iload_n zf0_9 rfl rfl).trans ?_
  refine (R_callI zf0_10 zo_0 zsl_11_98 (by rw [zr_1]; rfl) zl_1 (Nat.le_of_ble_eq_true rfl) rfl rfl (Nat.le_of_ble_eq_true rfl) (Nat.le_of_ble_eq_true rfl) (es := [.inl x2, vU, vU]) rfl rfl).trans ?_
  refine congrArg (cI _) (funext fun a6_ => funext fun h5_ => ?_)
  refine (R_iadd zf0_13 rfl).trans ?_
  refine (R_iload zf0_14 rfl rfl).trans ?_
  refine (R_callI zf0_16 zo_0 zsl_11_98 (by rw [zr_1]; rfl) zl_1 (Nat.le_of_ble_eq_true rfl) rfl rfl (Nat.le_of_ble_eq_true rfl) (Nat.le_of_ble_eq_true rfl) (es := [.inl x3, vU, vU]) rfl rfl).trans ?_
  refine congrArg (cI _) (funext fun a8_ => funext fun h7_ => ?_)
  refine (R_iadd zf0_19 rfl).trans ?_
  refine (R_iload zf0_20 rfl rfl).trans ?_
  refine (R_callI zf0_22 zo_0 zsl_11_98 (by rw [zr_1]; rfl) zl_1 (Nat.le_of_ble_eq_true rfl) rfl rfl (Nat.le_of_ble_eq_true rfl) (Nat.le_of_ble_eq_true rfl) (es := [.inl x4, vU, vU]) rfl rfl).trans ?_
  refine congrArg (cI _) (funext fun a10_ => funext fun h9_ => ?_)
  refine (R_iadd zf0_25 rfl).trans ?_
  refine (R_istore (ls' := [.inr (.inr (.inl 0)), .inl x0, .inl x1, .inl x2, .inl x3, .inl x4, .inl (wI ((wI ((wI ((wI (a2_ + a4_)) + a6_)) + a8_)) + a10_))]) zf0_26 (Nat.le_of_ble_eq_true rfl) rfl rfl).trans ?_
  refine (R_aload_n zf0_28 rfl zlt_0 rfl).trans ?_
  refine (R_getR zf0_29 zo_0 zfl_11_10 zk1_0 zft_11_0 zmr_0_0 rfl).trans ?_
  refine (R_getI zf0_32 zo_0 zfl_11_102 zk1_1 zft_10_1 rfl).trans ?_
  refine (R_iload zf0_35 rfl rfl).trans ?_
  refine (R_iadd zf0_37 rfl).trans ?_
  refine (R_sipush zf0_38 zs_240 rfl).trans ?_
  refine (R_icmp_le (t := 46) zf0_41 rfl rfl).trans ?_
  refine ite_congr rfl (fun c11_ => ?_) (fun c11_ => ?_)
  · refine (R_aload_n zf0_46 rfl zlt_0 rfl).trans ?_
    refine (R_getR zf0_47 zo_0 zfl_11_10 zk1_0 zft_11_0 zmr_0_0 rfl).trans ?_
    refine (R_iload_n zf0_50 rfl rfl).trans ?_
    refine (R_vcallV zf0_51 zo_0 zvl_11_106 zr_2 zl_2 (Nat.le_of_ble_eq_true rfl) rfl rfl (Nat.le_of_ble_eq_true rfl) (Nat.le_of_ble_eq_true rfl) (es := [.inr (.inr (.inl 1)), .inl x0, vU, vU]) rfl rfl zk1_1 zo_2).trans ?_
    refine congrArg (cV _) (funext fun h12_ => ?_)
    refine (R_aload_n zf0_54 rfl zlt_0 rfl).trans ?_
    refine (R_getR zf0_55 zo_0 zfl_11_10 zk1_0 zft_11_0 zmr_0_0 rfl).trans ?_
    refine (R_iload_n zf0_58 rfl rfl).trans ?_
    refine (R_vcallV zf0_59 zo_0 zvl_11_106 zr_2 zl_2 (Nat.le_of_ble_eq_true rfl) rfl rfl (Nat.le_of_ble_eq_true rfl) (Nat.le_of_ble_eq_true rfl) (es := [.inr (.inr (.inl 1)), .inl x1, vU, vU]) rfl rfl zk1_1 zo_2).trans ?_
    refine congrArg (cV _) (funext fun h13_ => ?_)
    refine (R_aload_n zf0_62 rfl zlt_0 rfl).trans ?_
    refine (R_getR zf0_63 zo_0 zfl_11_10 zk1_0 zft_11_0 zmr_0_0 rfl).trans ?_
    refine (R_iload_n zf0_66 rfl rfl).trans ?_
    refine (R_vcallV zf0_67 zo_0 zvl_11_106 zr_2 zl_2 (Nat.le_of_ble_eq_true rfl) rfl rfl (Nat.le_of_ble_eq_true rfl) (Nat.le_of_ble_eq_true rfl) (es := [.inr (.inr (.inl 1)), .inl x2, vU, vU]) rfl rfl zk1_1 zo_2).trans ?_
    refine congrArg (cV _) (funext fun h14_ => ?_)
    refine (R_aload_n zf0_70 rfl zlt_0 rfl).trans ?_
    refine (R_getR zf0_71 zo_0 zfl_11_10 zk1_0 zft_11_0 zmr_0_0 rfl).trans ?_
    refine (R_iload zf0_74 rfl rfl).trans ?_
    refine (R_vcallV zf0_76 zo_0 zvl_11_106 zr_2 zl_2 (Nat.le_of_ble_eq_true rfl) rfl rfl (Nat.le_of_ble_eq_true rfl) (Nat.le_of_ble_eq_true rfl) (es := [.inr (.inr (.inl 1)), .inl x3, vU, vU]) rfl rfl zk1_1 zo_2).trans ?_
    refine congrArg (cV _) (funext fun h15_ => ?_)
    refine (R_aload_n zf0_79 rfl zlt_0 rfl).trans ?_
    refine (R_getR zf0_80 zo_0 zfl_11_10 zk1_0 zft_11_0 zmr_0_0 rfl).trans ?_
    refine (R_iload zf0_83 rfl rfl).trans ?_
    refine (R_vcallV zf0_85 zo_0 zvl_11_106 zr_2 zl_2 (Nat.le_of_ble_eq_true rfl) rfl rfl (Nat.le_of_ble_eq_true rfl) (Nat.le_of_ble_eq_true rfl) (es := [.inr (.inr (.inl 1)), .inl x4, vU, vU]) rfl rfl zk1_1 zo_2).trans ?_
    refine congrArg (cV _) (funext fun h16_ => ?_)
    refine (R_aload_n zf0_88 rfl zlt_0 rfl).trans ?_
    refine (R_getR zf0_89 zo_0 zfl_11_10 zk1_0 zft_11_0 zmr_0_0 rfl).trans ?_
    refine (R_getI zf0_92 zo_0 zfl_11_102 zk1_1 zft_10_1 rfl).trans ?_
    exact R_ireturn_i zf0_95 zr_0
  · refine (R_iconst zf0_44 zw_m1 rfl).trans ?_
    exact R_ireturn_i zf0_45 zr_0
-- CannonPost.end(I)Z at 0
theorem q3_0 (d : Nat) (x0 : Int) (h : MH) : Run d 3 0 [.inr (.inr (.inl 0)), .inl x0] [] h = (if x0 < 0 then some (some (.inl 0), h) else (if x0 ≤ (h 1 1) then some (some (.inl 1), (up h 1 1 x0)) else some (some (.inl 0), h))) := by
  refine (R_iload_n zf3_0 rfl rfl).trans ?_
  refine (R_if_lt (t := 15) zf3_1 rfl rfl).trans ?_
  refine ite_congr rfl (fun c1_ => ?_) (fun c1_ => ?_)
  · refine (R_iconst zf3_15 zw_0 rfl).trans ?_
    exact R_ireturn zf3_16 (by rw [zr_3]; rfl)
  · refine (R_iload_n zf3_4 rfl rfl).trans ?_
    refine (R_aload_n zf3_5 rfl zlt_0 rfl).trans ?_
    refine (R_getR zf3_6 zo_3 zfl_11_10 zk1_0 zft_11_0 zmr_0_0 rfl).trans ?_
    refine (R_getI zf3_9 zo_3 zfl_11_102 zk1_1 zft_10_1 rfl).trans ?_
    refine (R_icmp_le (t := 17) zf3_12 rfl rfl).trans ?_
    refine ite_congr rfl (fun c2_ => ?_) (fun c2_ => ?_)
    · refine (R_aload_n zf3_17 rfl zlt_0 rfl).trans ?_
      refine (R_getR zf3_18 zo_3 zfl_11_10 zk1_0 zft_11_0 zmr_0_0 rfl).trans ?_
      refine (R_iload_n zf3_21 rfl rfl).trans ?_
      refine (R_putI zf3_22 zo_3 zfl_11_102 zk1_1 zft_10_1 rfl).trans ?_
      refine (R_iconst zf3_25 zw_1 rfl).trans ?_
      exact R_ireturn zf3_26 (by rw [zr_3]; rfl)
    · refine (R_iconst zf3_15 zw_0 rfl).trans ?_
      exact R_ireturn zf3_16 (by rw [zr_3]; rfl)
-- CannonPost.fault(I)I at 0
theorem q4_0 (d : Nat) (x0 : Int) (h : MH) : Run (d + 1) 4 0 [.inr (.inr (.inl 0)), .inl x0] [] h = (if x0 = 0 then (cI (Run d 5 0 [.inr (.inr (.inl 3))] [] h) fun a3_ h2_ => some (some (.inl a3_), h2_)) else (if x0 = 1 then (cI (Run d 22 0 [.inr (.inr (.inl 5)), vU] [] h) fun a6_ h5_ => some (some (.inl a6_), h5_)) else (if x0 = 2 then (cI (Run d 38 0 [.inr (.inr (.inl 7)), vU] [] h) fun a9_ h8_ => some (some (.inl a9_), h8_)) else some (some (.inl (-2)), h)))) := by
  refine (R_iload_n zf4_0 rfl rfl).trans ?_
  refine (switch_if (c := x0 = 0) (fun c1_ => ?_) (fun c1_ => ?_))
  · refine (R_tsw (t := 28) zf4_1 (by omega) (by rw [c1_]; rfl) rfl).trans ?_
    refine (R_aload_n zf4_28 rfl zlt_0 rfl).trans ?_
    refine (R_getR zf4_29 zo_4 zfl_11_28 zk1_0 zft_11_2 zmr_0_2 rfl).trans ?_
    refine (R_vcallI zf4_32 zo_4 zvl_11_110 (by rw [zr_5]; rfl) zl_5 (Nat.le_of_ble_eq_true rfl) rfl rfl (Nat.le_of_ble_eq_true rfl) (Nat.le_of_ble_eq_true rfl) (es := [.inr (.inr (.inl 3))]) rfl rfl zk1_3 zo_5).trans ?_
    refine congrArg (cI _) (funext fun a3_ => funext fun h2_ => ?_)
    exact R_ireturn_i zf4_35 zr_4
  refine (switch_if (c := x0 = 1) (fun c4_ => ?_) (fun c4_ => ?_))
  · refine (R_tsw (t := 36) zf4_1 (by omega) (by rw [c4_]; rfl) rfl).trans ?_
    refine (R_aload_n zf4_36 rfl zlt_0 rfl).trans ?_
    refine (R_getR zf4_37 zo_4 zfl_11_35 zk1_0 zft_11_3 zmr_0_3 rfl).trans ?_
    refine (R_vcallI zf4_40 zo_4 zvl_11_114 (by rw [zr_22]; rfl) zl_22 (Nat.le_of_ble_eq_true rfl) rfl rfl (Nat.le_of_ble_eq_true rfl) (Nat.le_of_ble_eq_true rfl) (es := [.inr (.inr (.inl 5)), vU]) rfl rfl zk1_5 zo_22).trans ?_
    refine congrArg (cI _) (funext fun a6_ => funext fun h5_ => ?_)
    exact R_ireturn_i zf4_43 zr_4
  refine (switch_if (c := x0 = 2) (fun c7_ => ?_) (fun c7_ => ?_))
  · refine (R_tsw (t := 44) zf4_1 (by omega) (by rw [c7_]; rfl) rfl).trans ?_
    refine (R_aload_n zf4_44 rfl zlt_0 rfl).trans ?_
    refine (R_getR zf4_45 zo_4 zfl_11_49 zk1_0 zft_11_5 zmr_0_5 rfl).trans ?_
    refine (R_vcallI zf4_48 zo_4 zvl_11_115 (by rw [zr_38]; rfl) zl_38 (Nat.le_of_ble_eq_true rfl) rfl rfl (Nat.le_of_ble_eq_true rfl) (Nat.le_of_ble_eq_true rfl) (es := [.inr (.inr (.inl 7)), vU]) rfl rfl zk1_7 zo_38).trans ?_
    refine congrArg (cI _) (funext fun a9_ => funext fun h8_ => ?_)
    exact R_ireturn_i zf4_51 zr_4
  refine (R_tswD (t := 52) zf4_1 (by omega) rfl).trans ?_
  refine (R_bipush zf4_52 zb_m2 rfl).trans ?_
  exact R_ireturn_i zf4_54 zr_4
-- CannonPost.text(I)I at 0
theorem q44_0 (d : Nat) (x0 : Int) (h : MH) : Run (d + 1) 44 0 [.inr (.inr (.inl 0)), .inl x0] [] h = (if ¬ x0 = 0 then Run (d + 1) 44 27 [.inr (.inr (.inl 0)), .inl x0] [] h else (cI (Run d 5 0 [.inr (.inr (.inl 3))] [] h) fun a3_ h2_ => (if ¬ a3_ = (-1) then Run (d + 1) 44 27 [.inr (.inr (.inl 0)), .inl x0] [] h2_ else (cV (Run d 45 0 [.inr (.inr (.inl 0))] [] h2_) fun h5_ => some (some (.inl (h5_ 2 3)), h5_))))) := by
  refine (R_iload_n zf44_0 rfl rfl).trans ?_
  refine (R_if_ne (t := 27) zf44_1 rfl rfl).trans ?_
  refine ite_congr rfl (fun c1_ => ?_) (fun c1_ => ?_)
  · rfl
  · refine (R_aload_n zf44_4 rfl zlt_0 rfl).trans ?_
    refine (R_getR zf44_5 zo_44 zfl_11_28 zk1_0 zft_11_2 zmr_0_2 rfl).trans ?_
    refine (R_vcallI zf44_8 zo_44 zvl_11_110 (by rw [zr_5]; rfl) zl_5 (Nat.le_of_ble_eq_true rfl) rfl rfl (Nat.le_of_ble_eq_true rfl) (Nat.le_of_ble_eq_true rfl) (es := [.inr (.inr (.inl 3))]) rfl rfl zk1_3 zo_5).trans ?_
    refine congrArg (cI _) (funext fun a3_ => funext fun h2_ => ?_)
    refine (R_iconst zf44_11 zw_m1 rfl).trans ?_
    refine (R_icmp_ne (t := 27) zf44_12 rfl rfl).trans ?_
    refine ite_congr rfl (fun c4_ => ?_) (fun c4_ => ?_)
    · rfl
    · refine (R_aload_n zf44_15 rfl zlt_0 rfl).trans ?_
      refine (R_vcallV zf44_16 zo_44 zvl_11_116 zr_45 zl_45 (Nat.le_of_ble_eq_true rfl) rfl rfl (Nat.le_of_ble_eq_true rfl) (Nat.le_of_ble_eq_true rfl) (es := [.inr (.inr (.inl 0))]) rfl rfl zk1_0 zo_45).trans ?_
      refine congrArg (cV _) (funext fun h5_ => ?_)
      refine (R_aload_n zf44_19 rfl zlt_0 rfl).trans ?_
      refine (R_getR zf44_20 zo_44 zfl_11_19 zk1_0 zft_11_1 zmr_0_1 rfl).trans ?_
      refine (R_getI zf44_23 zo_44 zfl_11_119 zk1_2 zft_5_3 rfl).trans ?_
      exact R_ireturn_i zf44_26 zr_44
-- CannonPost.rule(I)I at 0
theorem q60_0 (d : Nat) (x0 : Int) (h : MH) : Run (d + 1) 60 0 [.inr (.inr (.inl 0)), .inl x0] [] h = (cI (Run d 61 0 [.inr (.inr (.inl 2))] [] h) fun a2_ h1_ => (if ¬ a2_ = 0 then (if x0 = 0 then some (some (.inl (h1_ 91 1)), h1_) else (if x0 = 1 then some (some (.inl (h1_ 91 2)), h1_) else (if x0 = 2 then some (some (.inl (h1_ 91 0)), h1_) else (if x0 = 3 then (cI (Run d 62 0 [.inr (.inr (.inl 2))] [] h1_) fun a9_ h8_ => some (some (.inl a9_), h8_)) else (if x0 = 4 then some (some (.inl (h1_ 91 3)), h1_) else some (some (.inl (-1)), h1_)))))) else some (some (.inl (-1)), h1_))) := by
  refine (R_aload_n zf60_0 rfl zlt_0 rfl).trans ?_
  refine (R_getR zf60_1 zo_60 zfl_11_19 zk1_0 zft_11_1 zmr_0_1 rfl).trans ?_
  refine (R_vcallI zf60_4 zo_60 zvl_11_159 (by rw [zr_61]; rfl) zl_61 (Nat.le_of_ble_eq_true rfl) rfl rfl (Nat.le_of_ble_eq_true rfl) (Nat.le_of_ble_eq_true rfl) (es := [.inr (.inr (.inl 2))]) rfl rfl zk1_2 zo_61).trans ?_
  refine congrArg (cI _) (funext fun a2_ => funext fun h1_ => ?_)
  refine (R_if_ne (t := 12) zf60_7 rfl rfl).trans ?_
  refine ite_congr rfl (fun c3_ => ?_) (fun c3_ => ?_)
  · refine (R_iload_n zf60_12 rfl rfl).trans ?_
    refine (switch_if (c := x0 = 0) (fun c4_ => ?_) (fun c4_ => ?_))
    · refine (R_tsw (t := 48) zf60_13 (by omega) (by rw [c4_]; rfl) rfl).trans ?_
      refine (R_aload_n zf60_48 rfl zlt_0 rfl).trans ?_
      refine (R_getR zf60_49 zo_60 zfl_11_88 zk1_0 zft_11_10 zmr_0_10 rfl).trans ?_
      refine (R_getR zf60_52 zo_60 zfl_11_162 zk1_12 zft_9_0 zmr_12_0 rfl).trans ?_
      refine (R_iconst zf60_55 zw_1 rfl).trans ?_
      refine (R_ialdc zf60_56 zk_91 (by decide) rfl rfl).trans ?_
      exact R_ireturn_i zf60_57 zr_60
    refine (switch_if (c := x0 = 1) (fun c5_ => ?_) (fun c5_ => ?_))
    · refine (R_tsw (t := 58) zf60_13 (by omega) (by rw [c5_]; rfl) rfl).trans ?_
      refine (R_aload_n zf60_58 rfl zlt_0 rfl).trans ?_
      refine (R_getR zf60_59 zo_60 zfl_11_88 zk1_0 zft_11_10 zmr_0_10 rfl).trans ?_
      refine (R_getR zf60_62 zo_60 zfl_11_162 zk1_12 zft_9_0 zmr_12_0 rfl).trans ?_
      refine (R_iconst zf60_65 zw_2 rfl).trans ?_
      refine (R_ialdc zf60_66 zk_91 (by decide) rfl rfl).trans ?_
      exact R_ireturn_i zf60_67 zr_60
    refine (switch_if (c := x0 = 2) (fun c6_ => ?_) (fun c6_ => ?_))
    · refine (R_tsw (t := 68) zf60_13 (by omega) (by rw [c6_]; rfl) rfl).trans ?_
      refine (R_aload_n zf60_68 rfl zlt_0 rfl).trans ?_
      refine (R_getR zf60_69 zo_60 zfl_11_88 zk1_0 zft_11_10 zmr_0_10 rfl).trans ?_
      refine (R_getR zf60_72 zo_60 zfl_11_162 zk1_12 zft_9_0 zmr_12_0 rfl).trans ?_
      refine (R_iconst zf60_75 zw_0 rfl).trans ?_
      refine (R_ialdc zf60_76 zk_91 (by decide) rfl rfl).trans ?_
      exact R_ireturn_i zf60_77 zr_60
    refine (switch_if (c := x0 = 3) (fun c7_ => ?_) (fun c7_ => ?_))
    · refine (R_tsw (t := 78) zf60_13 (by omega) (by rw [c7_]; rfl) rfl).trans ?_
      refine (R_aload_n zf60_78 rfl zlt_0 rfl).trans ?_
      refine (R_getR zf60_79 zo_60 zfl_11_19 zk1_0 zft_11_1 zmr_0_1 rfl).trans ?_
      refine (R_vcallI zf60_82 zo_60 zvl_11_165 (by rw [zr_62]; rfl) zl_62 (Nat.le_of_ble_eq_true rfl) rfl rfl (Nat.le_of_ble_eq_true rfl) (Nat.le_of_ble_eq_true rfl) (es := [.inr (.inr (.inl 2))]) rfl rfl zk1_2 zo_62).trans ?_
      refine congrArg (cI _) (funext fun a9_ => funext fun h8_ => ?_)
      exact R_ireturn_i zf60_85 zr_60
    refine (switch_if (c := x0 = 4) (fun c10_ => ?_) (fun c10_ => ?_))
    · refine (R_tsw (t := 86) zf60_13 (by omega) (by rw [c10_]; rfl) rfl).trans ?_
      refine (R_aload_n zf60_86 rfl zlt_0 rfl).trans ?_
      refine (R_getR zf60_87 zo_60 zfl_11_88 zk1_0 zft_11_10 zmr_0_10 rfl).trans ?_
      refine (R_getR zf60_90 zo_60 zfl_11_162 zk1_12 zft_9_0 zmr_12_0 rfl).trans ?_
      refine (R_iconst zf60_93 zw_3 rfl).trans ?_
      refine (R_ialdc zf60_94 zk_91 (by decide) rfl rfl).trans ?_
      exact R_ireturn_i zf60_95 zr_60
    refine (R_tswD (t := 96) zf60_13 (by omega) rfl).trans ?_
    refine (R_iconst zf60_96 zw_m1 rfl).trans ?_
    exact R_ireturn_i zf60_97 zr_60
  · refine (R_iconst zf60_10 zw_m1 rfl).trans ?_
    exact R_ireturn_i zf60_11 zr_60
-- CannonPost.fort(II)I at 0
theorem q63_0 (d : Nat) (x0 : Int) (x1 : Int) (h : MH) : Run (d + 1) 63 0 [.inr (.inr (.inl 0)), .inl x0, .inl x1] [] h = (cI (Run d 20 0 [.inr (.inr (.inl 2)), .inl x0] [] h) fun a2_ h1_ => (if ¬ a2_ = 0 then (if x1 = 0 then (cI (Run d 18 0 [.inr (.inr (.inl 2)), .inl x0] [] h1_) fun a6_ h5_ => some (some (.inl a6_), h5_)) else (if x1 = 1 then (cI (Run d 64 0 [.inr (.inr (.inl 2)), .inl x0] [] h1_) fun a9_ h8_ => some (some (.inl a9_), h8_)) else (if x1 = 2 then (if 0 ≤ (wI (21 + x0)) ∧ (wI (21 + x0)) < 37 then some (some (.inl (h1_ 91 (wI (21 + x0)).toNat)), h1_) else none) else (if x1 = 3 then (if 0 ≤ (wI (29 + x0)) ∧ (wI (29 + x0)) < 37 then some (some (.inl (h1_ 91 (wI (29 + x0)).toNat)), h1_) else none) else some (some (.inl (-1)), h1_))))) else some (some (.inl (-1)), h1_))) := by
  refine (R_aload_n zf63_0 rfl zlt_0 rfl).trans ?_
  refine (R_getR zf63_1 zo_63 zfl_11_19 zk1_0 zft_11_1 zmr_0_1 rfl).trans ?_
  refine (R_iload_n zf63_4 rfl rfl).trans ?_
  refine (R_vcallI zf63_5 zo_63 zvl_11_168 (by rw [zr_20]; rfl) zl_20 (Nat.le_of_ble_eq_true rfl) rfl rfl (Nat.le_of_ble_eq_true rfl) (Nat.le_of_ble_eq_true rfl) (es := [.inr (.inr (.inl 2)), .inl x0]) rfl rfl zk1_2 zo_20).trans ?_
  refine congrArg (cI _) (funext fun a2_ => funext fun h1_ => ?_)
  refine (R_if_ne (t := 13) zf63_8 rfl rfl).trans ?_
  refine ite_congr rfl (fun c3_ => ?_) (fun c3_ => ?_)
  · refine (R_iload_n zf63_13 rfl rfl).trans ?_
    refine (switch_if (c := x1 = 0) (fun c4_ => ?_) (fun c4_ => ?_))
    · refine (R_tsw (t := 44) zf63_14 (by omega) (by rw [c4_]; rfl) rfl).trans ?_
      refine (R_aload_n zf63_44 rfl zlt_0 rfl).trans ?_
      refine (R_getR zf63_45 zo_63 zfl_11_19 zk1_0 zft_11_1 zmr_0_1 rfl).trans ?_
      refine (R_iload_n zf63_48 rfl rfl).trans ?_
      refine (R_vcallI zf63_49 zo_63 zvl_11_172 (by rw [zr_18]; rfl) zl_18 (Nat.le_of_ble_eq_true rfl) rfl rfl (Nat.le_of_ble_eq_true rfl) (Nat.le_of_ble_eq_true rfl) (es := [.inr (.inr (.inl 2)), .inl x0]) rfl rfl zk1_2 zo_18).trans ?_
      refine congrArg (cI _) (funext fun a6_ => funext fun h5_ => ?_)
      exact R_ireturn_i zf63_52 zr_63
    refine (switch_if (c := x1 = 1) (fun c7_ => ?_) (fun c7_ => ?_))
    · refine (R_tsw (t := 53) zf63_14 (by omega) (by rw [c7_]; rfl) rfl).trans ?_
      refine (R_aload_n zf63_53 rfl zlt_0 rfl).trans ?_
      refine (R_getR zf63_54 zo_63 zfl_11_19 zk1_0 zft_11_1 zmr_0_1 rfl).trans ?_
      refine (R_iload_n zf63_57 rfl rfl).trans ?_
      refine (R_vcallI zf63_58 zo_63 zvl_11_175 (by rw [zr_64]; rfl) zl_64 (Nat.le_of_ble_eq_true rfl) rfl rfl (Nat.le_of_ble_eq_true rfl) (Nat.le_of_ble_eq_true rfl) (es := [.inr (.inr (.inl 2)), .inl x0]) rfl rfl zk1_2 zo_64).trans ?_
      refine congrArg (cI _) (funext fun a9_ => funext fun h8_ => ?_)
      exact R_ireturn_i zf63_61 zr_63
    refine (switch_if (c := x1 = 2) (fun c10_ => ?_) (fun c10_ => ?_))
    · refine (R_tsw (t := 62) zf63_14 (by omega) (by rw [c10_]; rfl) rfl).trans ?_
      refine (R_aload_n zf63_62 rfl zlt_0 rfl).trans ?_
      refine (R_getR zf63_63 zo_63 zfl_11_88 zk1_0 zft_11_10 zmr_0_10 rfl).trans ?_
      refine (R_getR zf63_66 zo_63 zfl_11_162 zk1_12 zft_9_0 zmr_12_0 rfl).trans ?_
      refine (R_bipush zf63_69 zb_21 rfl).trans ?_
      refine (R_iload_n zf63_71 rfl rfl).trans ?_
      refine (R_iadd zf63_72 rfl).trans ?_
      refine (R_iald zf63_73 zk_91 rfl).trans ?_
      refine ite_congr rfl (fun c11_ => ?_) (fun _ => rfl)
      exact R_ireturn_i zf63_74 zr_63
    refine (switch_if (c := x1 = 3) (fun c12_ => ?_) (fun c12_ => ?_))
    · refine (R_tsw (t := 75) zf63_14 (by omega) (by rw [c12_]; rfl) rfl).trans ?_
      refine (R_aload_n zf63_75 rfl zlt_0 rfl).trans ?_
      refine (R_getR zf63_76 zo_63 zfl_11_88 zk1_0 zft_11_10 zmr_0_10 rfl).trans ?_
      refine (R_getR zf63_79 zo_63 zfl_11_162 zk1_12 zft_9_0 zmr_12_0 rfl).trans ?_
      refine (R_bipush zf63_82 zb_29 rfl).trans ?_
      refine (R_iload_n zf63_84 rfl rfl).trans ?_
      refine (R_iadd zf63_85 rfl).trans ?_
      refine (R_iald zf63_86 zk_91 rfl).trans ?_
      refine ite_congr rfl (fun c13_ => ?_) (fun _ => rfl)
      exact R_ireturn_i zf63_87 zr_63
    refine (R_tswD (t := 88) zf63_14 (by omega) rfl).trans ?_
    refine (R_iconst zf63_88 zw_m1 rfl).trans ?_
    exact R_ireturn_i zf63_89 zr_63
  · refine (R_iconst zf63_11 zw_m1 rfl).trans ?_
    exact R_ireturn_i zf63_12 zr_63
-- CannonPost.law(I)Z at 0
theorem q65_0 (d : Nat) (x0 : Int) (h : MH) : Run d 65 0 [.inr (.inr (.inl 0)), .inl x0] [] h = (if x0 < (-1) then some (some (.inl 0), h) else (if x0 < (h 6 1) then some (some (.inl 1), (up h 6 2 x0)) else some (some (.inl 0), h))) := by
  refine (R_iload_n zf65_0 rfl rfl).trans ?_
  refine (R_iconst zf65_1 zw_m1 rfl).trans ?_
  refine (R_icmp_lt (t := 16) zf65_2 rfl rfl).trans ?_
  refine ite_congr rfl (fun c1_ => ?_) (fun c1_ => ?_)
  · refine (R_iconst zf65_16 zw_0 rfl).trans ?_
    exact R_ireturn zf65_17 (by rw [zr_65]; rfl)
  · refine (R_iload_n zf65_5 rfl rfl).trans ?_
    refine (R_aload_n zf65_6 rfl zlt_0 rfl).trans ?_
    refine (R_getR zf65_7 zo_65 zfl_11_42 zk1_0 zft_11_4 zmr_0_4 rfl).trans ?_
    refine (R_getI zf65_10 zo_65 zfl_11_196 zk1_6 zft_4_1 rfl).trans ?_
    refine (R_icmp_lt (t := 18) zf65_13 rfl rfl).trans ?_
    refine ite_congr rfl (fun c2_ => ?_) (fun c2_ => ?_)
    · refine (R_aload_n zf65_18 rfl zlt_0 rfl).trans ?_
      refine (R_getR zf65_19 zo_65 zfl_11_42 zk1_0 zft_11_4 zmr_0_4 rfl).trans ?_
      refine (R_iload_n zf65_22 rfl rfl).trans ?_
      refine (R_putI zf65_23 zo_65 zfl_11_199 zk1_6 zft_4_2 rfl).trans ?_
      refine (R_iconst zf65_26 zw_1 rfl).trans ?_
      exact R_ireturn zf65_27 (by rw [zr_65]; rfl)
    · refine (R_iconst zf65_16 zw_0 rfl).trans ?_
      exact R_ireturn zf65_17 (by rw [zr_65]; rfl)
-- CannonPost.damps(I)Z at 0
theorem q66_0 (d : Nat) (x0 : Int) (h : MH) : Run d 66 0 [.inr (.inr (.inl 0)), .inl x0] [] h = (if x0 < 0 then some (some (.inl 0), h) else (if 9 < x0 then some (some (.inl 0), h) else (if ¬ x0 = (h 0 14) then some (some (.inl 1), (up h 0 14 x0)) else some (some (.inl 0), h)))) := by
  refine (R_iload_n zf66_0 rfl rfl).trans ?_
  refine (R_if_lt (t := 18) zf66_1 rfl rfl).trans ?_
  refine ite_congr rfl (fun c1_ => ?_) (fun c1_ => ?_)
  · refine (R_iconst zf66_18 zw_0 rfl).trans ?_
    exact R_ireturn zf66_19 (by rw [zr_66]; rfl)
  · refine (R_iload_n zf66_4 rfl rfl).trans ?_
    refine (R_bipush zf66_5 zb_9 rfl).trans ?_
    refine (R_icmp_gt (t := 18) zf66_7 rfl rfl).trans ?_
    refine ite_congr rfl (fun c2_ => ?_) (fun c2_ => ?_)
    · refine (R_iconst zf66_18 zw_0 rfl).trans ?_
      exact R_ireturn zf66_19 (by rw [zr_66]; rfl)
    · refine (R_iload_n zf66_10 rfl rfl).trans ?_
      refine (R_aload_n zf66_11 rfl zlt_0 rfl).trans ?_
      refine (R_getI zf66_12 zo_66 zfl_11_202 zk1_0 zft_11_14 rfl).trans ?_
      refine (R_icmp_ne (t := 20) zf66_15 rfl rfl).trans ?_
      refine ite_congr rfl (fun c3_ => ?_) (fun c3_ => ?_)
      · refine (R_aload_n zf66_20 rfl zlt_0 rfl).trans ?_
        refine (R_iload_n zf66_21 rfl rfl).trans ?_
        refine (R_putI zf66_22 zo_66 zfl_11_202 zk1_0 zft_11_14 rfl).trans ?_
        refine (R_iconst zf66_25 zw_1 rfl).trans ?_
        exact R_ireturn zf66_26 (by rw [zr_66]; rfl)
      · refine (R_iconst zf66_18 zw_0 rfl).trans ?_
        exact R_ireturn zf66_19 (by rw [zr_66]; rfl)
-- CannonPost.count(I)I at 0
theorem q67_0 (d : Nat) (x0 : Int) (h : MH) : Run (d + 1) 67 0 [.inr (.inr (.inl 0)), .inl x0] [] h = (if x0 = 0 then some (some (.inl (h 2 3)), h) else (if x0 = 1 then some (some (.inl (h 2 4)), h) else (if x0 = 2 then some (some (.inl (h 6 1)), h) else (if x0 = 3 then some (some (.inl (h 7 1)), h) else (if x0 = 4 then some (some (.inl (h 1 1)), h) else (if x0 = 5 then some (some (.inl (h 6 2)), h) else (if x0 = 6 then some (some (.inl (h 91 4)), h) else (if x0 = 7 then (cI (Run d 68 0 [.inr (.inr (.inl 12)), .inl 21, .inl (h 2 3), vU, vU] [] h) fun a10_ h9_ => some (some (.inl a10_), h9_)) else (if x0 = 8 then (cI (Run d 68 0 [.inr (.inr (.inl 12)), .inl 11, .inl (h 2 4), vU, vU] [] h) fun a13_ h12_ => some (some (.inl a13_), h12_)) else (if x0 = 9 then some (some (.inl (h 0 14)), h) else (if x0 = 10 then some (some (.inl (h 10 2)), h) else (if x0 = 11 then some (some (.inl (h 10 3)), h) else (if x0 = 12 then (cI (Run d 69 0 [.inr (.inr (.inl 12))] [] h) fun a19_ h18_ => some (some (.inl a19_), h18_)) else (if x0 = 13 then some (some (.inl (h 11 0)), h) else some (some (.inl (-1000000)), h))))))))))))))) := by
  refine (R_iload_n zf67_0 rfl rfl).trans ?_
  refine (switch_if (c := x0 = 0) (fun c1_ => ?_) (fun c1_ => ?_))
  · refine (R_tsw (t := 72) zf67_1 (by omega) (by rw [c1_]; rfl) rfl).trans ?_
    refine (R_aload_n zf67_72 rfl zlt_0 rfl).trans ?_
    refine (R_getR zf67_73 zo_67 zfl_11_19 zk1_0 zft_11_1 zmr_0_1 rfl).trans ?_
    refine (R_getI zf67_76 zo_67 zfl_11_119 zk1_2 zft_5_3 rfl).trans ?_
    exact R_ireturn_i zf67_79 zr_67
  refine (switch_if (c := x0 = 1) (fun c2_ => ?_) (fun c2_ => ?_))
  · refine (R_tsw (t := 80) zf67_1 (by omega) (by rw [c2_]; rfl) rfl).trans ?_
    refine (R_aload_n zf67_80 rfl zlt_0 rfl).trans ?_
    refine (R_getR zf67_81 zo_67 zfl_11_19 zk1_0 zft_11_1 zmr_0_1 rfl).trans ?_
    refine (R_getI zf67_84 zo_67 zfl_11_205 zk1_2 zft_5_4 rfl).trans ?_
    exact R_ireturn_i zf67_87 zr_67
  refine (switch_if (c := x0 = 2) (fun c3_ => ?_) (fun c3_ => ?_))
  · refine (R_tsw (t := 88) zf67_1 (by omega) (by rw [c3_]; rfl) rfl).trans ?_
    refine (R_aload_n zf67_88 rfl zlt_0 rfl).trans ?_
    refine (R_getR zf67_89 zo_67 zfl_11_42 zk1_0 zft_11_4 zmr_0_4 rfl).trans ?_
    refine (R_getI zf67_92 zo_67 zfl_11_196 zk1_6 zft_4_1 rfl).trans ?_
    exact R_ireturn_i zf67_95 zr_67
  refine (switch_if (c := x0 = 3) (fun c4_ => ?_) (fun c4_ => ?_))
  · refine (R_tsw (t := 96) zf67_1 (by omega) (by rw [c4_]; rfl) rfl).trans ?_
    refine (R_aload_n zf67_96 rfl zlt_0 rfl).trans ?_
    refine (R_getR zf67_97 zo_67 zfl_11_49 zk1_0 zft_11_5 zmr_0_5 rfl).trans ?_
    refine (R_getI zf67_100 zo_67 zfl_11_208 zk1_7 zft_8_1 rfl).trans ?_
    exact R_ireturn_i zf67_103 zr_67
  refine (switch_if (c := x0 = 4) (fun c5_ => ?_) (fun c5_ => ?_))
  · refine (R_tsw (t := 104) zf67_1 (by omega) (by rw [c5_]; rfl) rfl).trans ?_
    refine (R_aload_n zf67_104 rfl zlt_0 rfl).trans ?_
    refine (R_getR zf67_105 zo_67 zfl_11_10 zk1_0 zft_11_0 zmr_0_0 rfl).trans ?_
    refine (R_getI zf67_108 zo_67 zfl_11_102 zk1_1 zft_10_1 rfl).trans ?_
    exact R_ireturn_i zf67_111 zr_67
  refine (switch_if (c := x0 = 5) (fun c6_ => ?_) (fun c6_ => ?_))
  · refine (R_tsw (t := 112) zf67_1 (by omega) (by rw [c6_]; rfl) rfl).trans ?_
    refine (R_aload_n zf67_112 rfl zlt_0 rfl).trans ?_
    refine (R_getR zf67_113 zo_67 zfl_11_42 zk1_0 zft_11_4 zmr_0_4 rfl).trans ?_
    refine (R_getI zf67_116 zo_67 zfl_11_199 zk1_6 zft_4_2 rfl).trans ?_
    exact R_ireturn_i zf67_119 zr_67
  refine (switch_if (c := x0 = 6) (fun c7_ => ?_) (fun c7_ => ?_))
  · refine (R_tsw (t := 120) zf67_1 (by omega) (by rw [c7_]; rfl) rfl).trans ?_
    refine (R_aload_n zf67_120 rfl zlt_0 rfl).trans ?_
    refine (R_getR zf67_121 zo_67 zfl_11_88 zk1_0 zft_11_10 zmr_0_10 rfl).trans ?_
    refine (R_getR zf67_124 zo_67 zfl_11_162 zk1_12 zft_9_0 zmr_12_0 rfl).trans ?_
    refine (R_iconst zf67_127 zw_4 rfl).trans ?_
    refine (R_ialdc zf67_128 zk_91 (by decide) rfl rfl).trans ?_
    exact R_ireturn_i zf67_129 zr_67
  refine (switch_if (c := x0 = 7) (fun c8_ => ?_) (fun c8_ => ?_))
  · refine (R_tsw (t := 130) zf67_1 (by omega) (by rw [c8_]; rfl) rfl).trans ?_
    refine (R_aload_n zf67_130 rfl zlt_0 rfl).trans ?_
    refine (R_getR zf67_131 zo_67 zfl_11_88 zk1_0 zft_11_10 zmr_0_10 rfl).trans ?_
    refine (R_bipush zf67_134 zb_21 rfl).trans ?_
    refine (R_aload_n zf67_136 rfl zlt_0 rfl).trans ?_
    refine (R_getR zf67_137 zo_67 zfl_11_19 zk1_0 zft_11_1 zmr_0_1 rfl).trans ?_
    refine (R_getI zf67_140 zo_67 zfl_11_119 zk1_2 zft_5_3 rfl).trans ?_
    refine (R_vcallI zf67_143 zo_67 zvl_11_209 (by rw [zr_68]; rfl) zl_68 (Nat.le_of_ble_eq_true rfl) rfl rfl (Nat.le_of_ble_eq_true rfl) (Nat.le_of_ble_eq_true rfl) (es := [.inr (.inr (.inl 12)), .inl 21, .inl (h 2 3), vU, vU]) rfl rfl zk1_12 zo_68).trans ?_
    refine congrArg (cI _) (funext fun a10_ => funext fun h9_ => ?_)
    exact R_ireturn_i zf67_146 zr_67
  refine (switch_if (c := x0 = 8) (fun c11_ => ?_) (fun c11_ => ?_))
  · refine (R_tsw (t := 147) zf67_1 (by omega) (by rw [c11_]; rfl) rfl).trans ?_
    refine (R_aload_n zf67_147 rfl zlt_0 rfl).trans ?_
    refine (R_getR zf67_148 zo_67 zfl_11_88 zk1_0 zft_11_10 zmr_0_10 rfl).trans ?_
    refine (R_bipush zf67_151 zb_11 rfl).trans ?_
    refine (R_aload_n zf67_153 rfl zlt_0 rfl).trans ?_
    refine (R_getR zf67_154 zo_67 zfl_11_19 zk1_0 zft_11_1 zmr_0_1 rfl).trans ?_
    refine (R_getI zf67_157 zo_67 zfl_11_205 zk1_2 zft_5_4 rfl).trans ?_
    refine (R_vcallI zf67_160 zo_67 zvl_11_209 (by rw [zr_68]; rfl) zl_68 (Nat.le_of_ble_eq_true rfl) rfl rfl (Nat.le_of_ble_eq_true rfl) (Nat.le_of_ble_eq_true rfl) (es := [.inr (.inr (.inl 12)), .inl 11, .inl (h 2 4), vU, vU]) rfl rfl zk1_12 zo_68).trans ?_
    refine congrArg (cI _) (funext fun a13_ => funext fun h12_ => ?_)
    exact R_ireturn_i zf67_163 zr_67
  refine (switch_if (c := x0 = 9) (fun c14_ => ?_) (fun c14_ => ?_))
  · refine (R_tsw (t := 164) zf67_1 (by omega) (by rw [c14_]; rfl) rfl).trans ?_
    refine (R_aload_n zf67_164 rfl zlt_0 rfl).trans ?_
    refine (R_getI zf67_165 zo_67 zfl_11_202 zk1_0 zft_11_14 rfl).trans ?_
    exact R_ireturn_i zf67_168 zr_67
  refine (switch_if (c := x0 = 10) (fun c15_ => ?_) (fun c15_ => ?_))
  · refine (R_tsw (t := 169) zf67_1 (by omega) (by rw [c15_]; rfl) rfl).trans ?_
    refine (R_aload_n zf67_169 rfl zlt_0 rfl).trans ?_
    refine (R_getR zf67_170 zo_67 zfl_11_74 zk1_0 zft_11_8 zmr_0_8 rfl).trans ?_
    refine (R_getI zf67_173 zo_67 zfl_11_213 zk1_10 zft_1_2 rfl).trans ?_
    exact R_ireturn_i zf67_176 zr_67
  refine (switch_if (c := x0 = 11) (fun c16_ => ?_) (fun c16_ => ?_))
  · refine (R_tsw (t := 177) zf67_1 (by omega) (by rw [c16_]; rfl) rfl).trans ?_
    refine (R_aload_n zf67_177 rfl zlt_0 rfl).trans ?_
    refine (R_getR zf67_178 zo_67 zfl_11_74 zk1_0 zft_11_8 zmr_0_8 rfl).trans ?_
    refine (R_getI zf67_181 zo_67 zfl_11_216 zk1_10 zft_1_3 rfl).trans ?_
    exact R_ireturn_i zf67_184 zr_67
  refine (switch_if (c := x0 = 12) (fun c17_ => ?_) (fun c17_ => ?_))
  · refine (R_tsw (t := 185) zf67_1 (by omega) (by rw [c17_]; rfl) rfl).trans ?_
    refine (R_aload_n zf67_185 rfl zlt_0 rfl).trans ?_
    refine (R_getR zf67_186 zo_67 zfl_11_88 zk1_0 zft_11_10 zmr_0_10 rfl).trans ?_
    refine (R_vcallI zf67_189 zo_67 zvl_11_219 (by rw [zr_69]; rfl) zl_69 (Nat.le_of_ble_eq_true rfl) rfl rfl (Nat.le_of_ble_eq_true rfl) (Nat.le_of_ble_eq_true rfl) (es := [.inr (.inr (.inl 12))]) rfl rfl zk1_12 zo_69).trans ?_
    refine congrArg (cI _) (funext fun a19_ => funext fun h18_ => ?_)
    exact R_ireturn_i zf67_192 zr_67
  refine (switch_if (c := x0 = 13) (fun c20_ => ?_) (fun c20_ => ?_))
  · refine (R_tsw (t := 193) zf67_1 (by omega) (by rw [c20_]; rfl) rfl).trans ?_
    refine (R_aload_n zf67_193 rfl zlt_0 rfl).trans ?_
    refine (R_getR zf67_194 zo_67 zfl_11_81 zk1_0 zft_11_9 zmr_0_9 rfl).trans ?_
    refine (R_getI zf67_197 zo_67 zfl_11_222 zk1_11 zft_2_0 rfl).trans ?_
    exact R_ireturn_i zf67_200 zr_67
  refine (R_tswD (t := 201) zf67_1 (by omega) rfl).trans ?_
  refine (R_ldc zf67_201 zo_67 zcl_11_223 rfl).trans ?_
  exact R_ireturn_i zf67_203 zr_67
-- CannonPost.shoot(IIII)I at 0
theorem q70_0 (d : Nat) (x0 : Int) (x1 : Int) (x2 : Int) (x3 : Int) (h : MH) : Run (d + 1) 70 0 [.inr (.inr (.inl 0)), .inl x0, .inl x1, .inl x2, .inl x3, vU] [] h = (cI (Run d 71 0 [.inr (.inr (.inl 0)), .inr (.inr (.inl 12)), .inl x0, .inl x1] [] h) fun a2_ h1_ => (if a2_ = 0 then some (some (.inl (-1)), h1_) else (cI (Run d 74 0 [.inl x2] [] h1_) fun a5_ h4_ => (if a5_ = 0 then some (some (.inl (-1)), h4_) else (cI (Run d 75 0 [.inr (.inr (.inl 0)), .inl x0, .inl x3, vU] [] h4_) fun a8_ h7_ => (if ¬ a8_ = 0 then (cV (Run d 77 0 [.inr (.inr (.inl 11)), .inr (.inr (.inl 12))] [] h7_) fun h10_ => (cI (Run d 78 0 [.inr (.inr (.inl 0)), .inr (.inr (.inl 12)), .inl x0, .inl x1, .inl x2, .inl x3, vU, vU] [] h10_) fun a12_ h11_ => (if ¬ a12_ = (-1) then some (some (.inl a12_), h11_) else some (some (.inl (-2)), h11_)))) else some (some (.inl (-1)), h7_))))))) := by
  refine (R_aload_n zf70_0 rfl zlt_0 rfl).trans ?_
  refine (R_aload_n zf70_1 rfl zlt_0 rfl).trans ?_
  refine (R_getR zf70_2 zo_70 zfl_11_88 zk1_0 zft_11_10 zmr_0_10 rfl).trans ?_
  refine (R_iload_n zf70_5 rfl rfl).trans ?_
  refine (R_iload_n zf70_6 rfl rfl).trans ?_
  refine (R_vcallI zf70_7 zo_70 zvl_11_224 (by rw [zr_71]; rfl) zl_71 (Nat.le_of_ble_eq_true rfl) rfl rfl (Nat.le_of_ble_eq_true rfl) (Nat.le_of_ble_eq_true rfl) (es := [.inr (.inr (.inl 0)), .inr (.inr (.inl 12)), .inl x0, .inl x1]) rfl rfl zk1_0 zo_71).trans ?_
  refine congrArg (cI _) (funext fun a2_ => funext fun h1_ => ?_)
  refine (R_if_eq (t := 30) zf70_10 rfl rfl).trans ?_
  refine ite_congr rfl (fun c3_ => ?_) (fun c3_ => ?_)
  · refine (R_iconst zf70_30 zw_m1 rfl).trans ?_
    exact R_ireturn_i zf70_31 zr_70
  · refine (R_iload_n zf70_13 rfl rfl).trans ?_
    refine (R_callI zf70_14 zo_70 zsl_11_228 (by rw [zr_74]; rfl) zl_74 (Nat.le_of_ble_eq_true rfl) rfl rfl (Nat.le_of_ble_eq_true rfl) (Nat.le_of_ble_eq_true rfl) (es := [.inl x2]) rfl rfl).trans ?_
    refine congrArg (cI _) (funext fun a5_ => funext fun h4_ => ?_)
    refine (R_if_eq (t := 30) zf70_17 rfl rfl).trans ?_
    refine ite_congr rfl (fun c6_ => ?_) (fun c6_ => ?_)
    · refine (R_iconst zf70_30 zw_m1 rfl).trans ?_
      exact R_ireturn_i zf70_31 zr_70
    · refine (R_aload_n zf70_20 rfl zlt_0 rfl).trans ?_
      refine (R_iload_n zf70_21 rfl rfl).trans ?_
      refine (R_iload zf70_22 rfl rfl).trans ?_
      refine (R_vcallI zf70_24 zo_70 zvl_11_231 (by rw [zr_75]; rfl) zl_75 (Nat.le_of_ble_eq_true rfl) rfl rfl (Nat.le_of_ble_eq_true rfl) (Nat.le_of_ble_eq_true rfl) (es := [.inr (.inr (.inl 0)), .inl x0, .inl x3, vU]) rfl rfl zk1_0 zo_75).trans ?_
      refine congrArg (cI _) (funext fun a8_ => funext fun h7_ => ?_)
      refine (R_if_ne (t := 32) zf70_27 rfl rfl).trans ?_
      refine ite_congr rfl (fun c9_ => ?_) (fun c9_ => ?_)
      · refine (R_aload_n zf70_32 rfl zlt_0 rfl).trans ?_
        refine (R_getR zf70_33 zo_70 zfl_11_81 zk1_0 zft_11_9 zmr_0_9 rfl).trans ?_
        refine (R_aload_n zf70_36 rfl zlt_0 rfl).trans ?_
        refine (R_getR zf70_37 zo_70 zfl_11_88 zk1_0 zft_11_10 zmr_0_10 rfl).trans ?_
        refine (R_vcallV zf70_40 zo_70 zvl_11_235 zr_77 zl_77 (Nat.le_of_ble_eq_true rfl) rfl rfl (Nat.le_of_ble_eq_true rfl) (Nat.le_of_ble_eq_true rfl) (es := [.inr (.inr (.inl 11)), .inr (.inr (.inl 12))]) rfl rfl zk1_11 zo_77).trans ?_
        refine congrArg (cV _) (funext fun h10_ => ?_)
        refine (R_aload_n zf70_43 rfl zlt_0 rfl).trans ?_
        refine (R_aload_n zf70_44 rfl zlt_0 rfl).trans ?_
        refine (R_getR zf70_45 zo_70 zfl_11_88 zk1_0 zft_11_10 zmr_0_10 rfl).trans ?_
        refine (R_iload_n zf70_48 rfl rfl).trans ?_
        refine (R_iload_n zf70_49 rfl rfl).trans ?_
        refine (R_iload_n zf70_50 rfl rfl).trans ?_
        refine (R_iload zf70_51 rfl rfl).trans ?_
        refine (R_vcallI zf70_53 zo_70 zvl_11_239 (by rw [zr_78]; rfl) zl_78 (Nat.le_of_ble_eq_true rfl) rfl rfl (Nat.le_of_ble_eq_true rfl) (Nat.le_of_ble_eq_true rfl) (es := [.inr (.inr (.inl 0)), .inr (.inr (.inl 12)), .inl x0, .inl x1, .inl x2, .inl x3, vU, vU]) rfl rfl zk1_0 zo_78).trans ?_
        refine congrArg (cI _) (funext fun a12_ => funext fun h11_ => ?_)
        refine (R_istore (ls' := [.inr (.inr (.inl 0)), .inl x0, .inl x1, .inl x2, .inl x3, .inl a12_]) zf70_56 (Nat.le_of_ble_eq_true rfl) rfl rfl).trans ?_
        refine (R_iload zf70_58 rfl rfl).trans ?_
        refine (R_iconst zf70_60 zw_m1 rfl).trans ?_
        refine (R_icmp_ne (t := 69) zf70_61 rfl rfl).trans ?_
        refine ite_congr rfl (fun c13_ => ?_) (fun c13_ => ?_)
        · refine (R_iload zf70_69 rfl rfl).trans ?_
          exact R_ireturn_i zf70_71 zr_70
        · refine (R_bipush zf70_64 zb_m2 rfl).trans ?_
          refine (R_goto (t := 71) zf70_66 rfl).trans ?_
          exact R_ireturn_i zf70_71 zr_70
      · refine (R_iconst zf70_30 zw_m1 rfl).trans ?_
        exact R_ireturn_i zf70_31 zr_70
-- CannonPost.hear(II)Z at 0
theorem q90_0 (d : Nat) (x0 : Int) (x1 : Int) (h : MH) : Run (d + 1) 90 0 [.inr (.inr (.inl 0)), .inl x0, .inl x1] [] h = (cI (Run d 91 0 [.inr (.inr (.inl 0)), .inr (.inr (.inl 12)), .inl x0, .inl x1] [] h) fun a2_ h1_ => (if ¬ a2_ = 0 then (cV (Run d 77 0 [.inr (.inr (.inl 11)), .inr (.inr (.inl 12))] [] h1_) fun h4_ => (if 0 ≤ (wI (29 + x0)) ∧ (wI (29 + x0)) < 37 then (if 0 ≤ (wI (29 + x0)) ∧ (wI (29 + x0)) < 37 then some (some (.inl 1), (up h4_ 91 (wI (29 + x0)).toNat (iOr (h4_ 91 (wI (29 + x0)).toNat) (iShl 1 x1)))) else none) else none)) else some (some (.inl 0), h1_))) := by
  refine (R_aload_n zf90_0 rfl zlt_0 rfl).trans ?_
  refine (R_aload_n zf90_1 rfl zlt_0 rfl).trans ?_
  refine (R_getR zf90_2 zo_90 zfl_11_88 zk1_0 zft_11_10 zmr_0_10 rfl).trans ?_
  refine (R_iload_n zf90_5 rfl rfl).trans ?_
  refine (R_iload_n zf90_6 rfl rfl).trans ?_
  refine (R_vcallI zf90_7 zo_90 zvl_11_243 (by rw [zr_91]; rfl) zl_91 (Nat.le_of_ble_eq_true rfl) rfl rfl (Nat.le_of_ble_eq_true rfl) (Nat.le_of_ble_eq_true rfl) (es := [.inr (.inr (.inl 0)), .inr (.inr (.inl 12)), .inl x0, .inl x1]) rfl rfl zk1_0 zo_91).trans ?_
  refine congrArg (cI _) (funext fun a2_ => funext fun h1_ => ?_)
  refine (R_if_ne (t := 15) zf90_10 rfl rfl).trans ?_
  refine ite_congr rfl (fun c3_ => ?_) (fun c3_ => ?_)
  · refine (R_aload_n zf90_15 rfl zlt_0 rfl).trans ?_
    refine (R_getR zf90_16 zo_90 zfl_11_81 zk1_0 zft_11_9 zmr_0_9 rfl).trans ?_
    refine (R_aload_n zf90_19 rfl zlt_0 rfl).trans ?_
    refine (R_getR zf90_20 zo_90 zfl_11_88 zk1_0 zft_11_10 zmr_0_10 rfl).trans ?_
    refine (R_vcallV zf90_23 zo_90 zvl_11_235 zr_77 zl_77 (Nat.le_of_ble_eq_true rfl) rfl rfl (Nat.le_of_ble_eq_true rfl) (Nat.le_of_ble_eq_true rfl) (es := [.inr (.inr (.inl 11)), .inr (.inr (.inl 12))]) rfl rfl zk1_11 zo_77).trans ?_
    refine congrArg (cV _) (funext fun h4_ => ?_)
    refine (R_aload_n zf90_26 rfl zlt_0 rfl).trans ?_
    refine (R_getR zf90_27 zo_90 zfl_11_88 zk1_0 zft_11_10 zmr_0_10 rfl).trans ?_
    refine (R_getR zf90_30 zo_90 zfl_11_162 zk1_12 zft_9_0 zmr_12_0 rfl).trans ?_
    refine (R_bipush zf90_33 zb_29 rfl).trans ?_
    refine (R_iload_n zf90_35 rfl rfl).trans ?_
    refine (R_iadd zf90_36 rfl).trans ?_
    refine (R_dup2 zf90_37 rfl rfl rfl).trans ?_
    refine (R_iald zf90_38 zk_91 rfl).trans ?_
    refine ite_congr rfl (fun c5_ => ?_) (fun _ => rfl)
    refine (R_iconst zf90_39 zw_1 rfl).trans ?_
    refine (R_iload_n zf90_40 rfl rfl).trans ?_
    refine (R_ishl zf90_41 rfl).trans ?_
    refine (R_ior zf90_42 rfl).trans ?_
    refine (R_iast zf90_43 zk_91 rfl).trans ?_
    refine ite_congr rfl (fun c6_ => ?_) (fun _ => rfl)
    refine (R_iconst zf90_44 zw_1 rfl).trans ?_
    exact R_ireturn zf90_45 (by rw [zr_90]; rfl)
  · refine (R_iconst zf90_13 zw_0 rfl).trans ?_
    exact R_ireturn zf90_14 (by rw [zr_90]; rfl)
-- CannonPost.stack(II)I at 0
theorem q93_0 (d : Nat) (x0 : Int) (x1 : Int) (h : MH) : Run (d + 1) 93 0 [.inr (.inr (.inl 0)), .inl x0, .inl x1] [] h = (cI (Run d 20 0 [.inr (.inr (.inl 2)), .inl x0] [] h) fun a2_ h1_ => (if a2_ = 0 then some (some (.inl (-1)), h1_) else (if x1 < 1 then some (some (.inl (-1)), h1_) else (if 9 < x1 then some (some (.inl (-1)), h1_) else (if 0 ≤ (wI (21 + x0)) ∧ (wI (21 + x0)) < 37 then (if (wI ((h1_ 91 (wI (21 + x0)).toNat) + x1)) ≤ 9 then (cV (Run d 77 0 [.inr (.inr (.inl 11)), .inr (.inr (.inl 12))] [] h1_) fun h8_ => (if 0 ≤ (wI (21 + x0)) ∧ (wI (21 + x0)) < 37 then (if 0 ≤ (wI (21 + x0)) ∧ (wI (21 + x0)) < 37 then (if 0 ≤ (wI (21 + x0)) ∧ (wI (21 + x0)) < 37 then some (some (.inl ((up h8_ 91 (wI (21 + x0)).toNat (wI ((h8_ 91 (wI (21 + x0)).toNat) + x1))) 91 (wI (21 + x0)).toNat)), (up h8_ 91 (wI (21 + x0)).toNat (wI ((h8_ 91 (wI (21 + x0)).toNat) + x1)))) else none) else none) else none)) else some (some (.inl (-1)), h1_)) else none))))) := by
  refine (R_aload_n zf93_0 rfl zlt_0 rfl).trans ?_
  refine (R_getR zf93_1 zo_93 zfl_11_19 zk1_0 zft_11_1 zmr_0_1 rfl).trans ?_
  refine (R_iload_n zf93_4 rfl rfl).trans ?_
  refine (R_vcallI zf93_5 zo_93 zvl_11_168 (by rw [zr_20]; rfl) zl_20 (Nat.le_of_ble_eq_true rfl) rfl rfl (Nat.le_of_ble_eq_true rfl) (Nat.le_of_ble_eq_true rfl) (es := [.inr (.inr (.inl 2)), .inl x0]) rfl rfl zk1_2 zo_20).trans ?_
  refine congrArg (cI _) (funext fun a2_ => funext fun h1_ => ?_)
  refine (R_if_eq (t := 41) zf93_8 rfl rfl).trans ?_
  refine ite_congr rfl (fun c3_ => ?_) (fun c3_ => ?_)
  · refine (R_iconst zf93_41 zw_m1 rfl).trans ?_
    exact R_ireturn_i zf93_42 zr_93
  · refine (R_iload_n zf93_11 rfl rfl).trans ?_
    refine (R_iconst zf93_12 zw_1 rfl).trans ?_
    refine (R_icmp_lt (t := 41) zf93_13 rfl rfl).trans ?_
    refine ite_congr rfl (fun c4_ => ?_) (fun c4_ => ?_)
    · refine (R_iconst zf93_41 zw_m1 rfl).trans ?_
      exact R_ireturn_i zf93_42 zr_93
    · refine (R_iload_n zf93_16 rfl rfl).trans ?_
      refine (R_bipush zf93_17 zb_9 rfl).trans ?_
      refine (R_icmp_gt (t := 41) zf93_19 rfl rfl).trans ?_
      refine ite_congr rfl (fun c5_ => ?_) (fun c5_ => ?_)
      · refine (R_iconst zf93_41 zw_m1 rfl).trans ?_
        exact R_ireturn_i zf93_42 zr_93
      · refine (R_aload_n zf93_22 rfl zlt_0 rfl).trans ?_
        refine (R_getR zf93_23 zo_93 zfl_11_88 zk1_0 zft_11_10 zmr_0_10 rfl).trans ?_
        refine (R_getR zf93_26 zo_93 zfl_11_162 zk1_12 zft_9_0 zmr_12_0 rfl).trans ?_
        refine (R_bipush zf93_29 zb_21 rfl).trans ?_
        refine (R_iload_n zf93_31 rfl rfl).trans ?_
        refine (R_iadd zf93_32 rfl).trans ?_
        refine (R_iald zf93_33 zk_91 rfl).trans ?_
        refine ite_congr rfl (fun c6_ => ?_) (fun _ => rfl)
        refine (R_iload_n zf93_34 rfl rfl).trans ?_
        refine (R_iadd zf93_35 rfl).trans ?_
        refine (R_bipush zf93_36 zb_9 rfl).trans ?_
        refine (R_icmp_le (t := 43) zf93_38 rfl rfl).trans ?_
        refine ite_congr rfl (fun c7_ => ?_) (fun c7_ => ?_)
        · refine (R_aload_n zf93_43 rfl zlt_0 rfl).trans ?_
          refine (R_getR zf93_44 zo_93 zfl_11_81 zk1_0 zft_11_9 zmr_0_9 rfl).trans ?_
          refine (R_aload_n zf93_47 rfl zlt_0 rfl).trans ?_
          refine (R_getR zf93_48 zo_93 zfl_11_88 zk1_0 zft_11_10 zmr_0_10 rfl).trans ?_
          refine (R_vcallV zf93_51 zo_93 zvl_11_235 zr_77 zl_77 (Nat.le_of_ble_eq_true rfl) rfl rfl (Nat.le_of_ble_eq_true rfl) (Nat.le_of_ble_eq_true rfl) (es := [.inr (.inr (.inl 11)), .inr (.inr (.inl 12))]) rfl rfl zk1_11 zo_77).trans ?_
          refine congrArg (cV _) (funext fun h8_ => ?_)
          refine (R_aload_n zf93_54 rfl zlt_0 rfl).trans ?_
          refine (R_getR zf93_55 zo_93 zfl_11_88 zk1_0 zft_11_10 zmr_0_10 rfl).trans ?_
          refine (R_getR zf93_58 zo_93 zfl_11_162 zk1_12 zft_9_0 zmr_12_0 rfl).trans ?_
          refine (R_bipush zf93_61 zb_21 rfl).trans ?_
          refine (R_iload_n zf93_63 rfl rfl).trans ?_
          refine (R_iadd zf93_64 rfl).trans ?_
          refine (R_dup2 zf93_65 rfl rfl rfl).trans ?_
          refine (R_iald zf93_66 zk_91 rfl).trans ?_
          refine ite_congr rfl (fun c9_ => ?_) (fun _ => rfl)
          refine (R_iload_n zf93_67 rfl rfl).trans ?_
          refine (R_iadd zf93_68 rfl).trans ?_
          refine (R_iast zf93_69 zk_91 rfl).trans ?_
          refine ite_congr rfl (fun c10_ => ?_) (fun _ => rfl)
          refine (R_aload_n zf93_70 rfl zlt_0 rfl).trans ?_
          refine (R_getR zf93_71 zo_93 zfl_11_88 zk1_0 zft_11_10 zmr_0_10 rfl).trans ?_
          refine (R_getR zf93_74 zo_93 zfl_11_162 zk1_12 zft_9_0 zmr_12_0 rfl).trans ?_
          refine (R_bipush zf93_77 zb_21 rfl).trans ?_
          refine (R_iload_n zf93_79 rfl rfl).trans ?_
          refine (R_iadd zf93_80 rfl).trans ?_
          refine (R_iald zf93_81 zk_91 rfl).trans ?_
          refine ite_congr rfl (fun c11_ => ?_) (fun _ => rfl)
          exact R_ireturn_i zf93_82 zr_93
        · refine (R_iconst zf93_41 zw_m1 rfl).trans ?_
          exact R_ireturn_i zf93_42 zr_93
-- CannonPost.grind(I)I at 0
theorem q94_0 (d : Nat) (x0 : Int) (h : MH) : Run (d + 1) 94 0 [.inr (.inr (.inl 0)), .inl x0] [] h = (cI (Run d 61 0 [.inr (.inr (.inl 2))] [] h) fun a2_ h1_ => (if a2_ = 0 then some (some (.inl (-1)), h1_) else (if x0 < 1 then some (some (.inl (-1)), h1_) else (if 50 < x0 then some (some (.inl (-1)), h1_) else (if (wI ((h1_ 91 0) + x0)) ≤ 99 then (cV (Run d 77 0 [.inr (.inr (.inl 11)), .inr (.inr (.inl 12))] [] h1_) fun h7_ => some (some (.inl ((up h7_ 91 0 (wI ((h7_ 91 0) + x0))) 91 0)), (up h7_ 91 0 (wI ((h7_ 91 0) + x0))))) else some (some (.inl (-1)), h1_)))))) := by
  refine (R_aload_n zf94_0 rfl zlt_0 rfl).trans ?_
  refine (R_getR zf94_1 zo_94 zfl_11_19 zk1_0 zft_11_1 zmr_0_1 rfl).trans ?_
  refine (R_vcallI zf94_4 zo_94 zvl_11_159 (by rw [zr_61]; rfl) zl_61 (Nat.le_of_ble_eq_true rfl) rfl rfl (Nat.le_of_ble_eq_true rfl) (Nat.le_of_ble_eq_true rfl) (es := [.inr (.inr (.inl 2))]) rfl rfl zk1_2 zo_61).trans ?_
  refine congrArg (cI _) (funext fun a2_ => funext fun h1_ => ?_)
  refine (R_if_eq (t := 37) zf94_7 rfl rfl).trans ?_
  refine ite_congr rfl (fun c3_ => ?_) (fun c3_ => ?_)
  · refine (R_iconst zf94_37 zw_m1 rfl).trans ?_
    exact R_ireturn_i zf94_38 zr_94
  · refine (R_iload_n zf94_10 rfl rfl).trans ?_
    refine (R_iconst zf94_11 zw_1 rfl).trans ?_
    refine (R_icmp_lt (t := 37) zf94_12 rfl rfl).trans ?_
    refine ite_congr rfl (fun c4_ => ?_) (fun c4_ => ?_)
    · refine (R_iconst zf94_37 zw_m1 rfl).trans ?_
      exact R_ireturn_i zf94_38 zr_94
    · refine (R_iload_n zf94_15 rfl rfl).trans ?_
      refine (R_bipush zf94_16 zb_50 rfl).trans ?_
      refine (R_icmp_gt (t := 37) zf94_18 rfl rfl).trans ?_
      refine ite_congr rfl (fun c5_ => ?_) (fun c5_ => ?_)
      · refine (R_iconst zf94_37 zw_m1 rfl).trans ?_
        exact R_ireturn_i zf94_38 zr_94
      · refine (R_aload_n zf94_21 rfl zlt_0 rfl).trans ?_
        refine (R_getR zf94_22 zo_94 zfl_11_88 zk1_0 zft_11_10 zmr_0_10 rfl).trans ?_
        refine (R_getR zf94_25 zo_94 zfl_11_162 zk1_12 zft_9_0 zmr_12_0 rfl).trans ?_
        refine (R_iconst zf94_28 zw_0 rfl).trans ?_
        refine (R_ialdc zf94_29 zk_91 (by decide) rfl rfl).trans ?_
        refine (R_iload_n zf94_30 rfl rfl).trans ?_
        refine (R_iadd zf94_31 rfl).trans ?_
        refine (R_bipush zf94_32 zb_99 rfl).trans ?_
        refine (R_icmp_le (t := 39) zf94_34 rfl rfl).trans ?_
        refine ite_congr rfl (fun c6_ => ?_) (fun c6_ => ?_)
        · refine (R_aload_n zf94_39 rfl zlt_0 rfl).trans ?_
          refine (R_getR zf94_40 zo_94 zfl_11_81 zk1_0 zft_11_9 zmr_0_9 rfl).trans ?_
          refine (R_aload_n zf94_43 rfl zlt_0 rfl).trans ?_
          refine (R_getR zf94_44 zo_94 zfl_11_88 zk1_0 zft_11_10 zmr_0_10 rfl).trans ?_
          refine (R_vcallV zf94_47 zo_94 zvl_11_235 zr_77 zl_77 (Nat.le_of_ble_eq_true rfl) rfl rfl (Nat.le_of_ble_eq_true rfl) (Nat.le_of_ble_eq_true rfl) (es := [.inr (.inr (.inl 11)), .inr (.inr (.inl 12))]) rfl rfl zk1_11 zo_77).trans ?_
          refine congrArg (cV _) (funext fun h7_ => ?_)
          refine (R_aload_n zf94_50 rfl zlt_0 rfl).trans ?_
          refine (R_getR zf94_51 zo_94 zfl_11_88 zk1_0 zft_11_10 zmr_0_10 rfl).trans ?_
          refine (R_getR zf94_54 zo_94 zfl_11_162 zk1_12 zft_9_0 zmr_12_0 rfl).trans ?_
          refine (R_iconst zf94_57 zw_0 rfl).trans ?_
          refine (R_dup2 zf94_58 rfl rfl rfl).trans ?_
          refine (R_ialdc zf94_59 zk_91 (by decide) rfl rfl).trans ?_
          refine (R_iload_n zf94_60 rfl rfl).trans ?_
          refine (R_iadd zf94_61 rfl).trans ?_
          refine (R_iastc zf94_62 zk_91 (by decide) rfl rfl).trans ?_
          refine (R_aload_n zf94_63 rfl zlt_0 rfl).trans ?_
          refine (R_getR zf94_64 zo_94 zfl_11_88 zk1_0 zft_11_10 zmr_0_10 rfl).trans ?_
          refine (R_getR zf94_67 zo_94 zfl_11_162 zk1_12 zft_9_0 zmr_12_0 rfl).trans ?_
          refine (R_iconst zf94_70 zw_0 rfl).trans ?_
          refine (R_ialdc zf94_71 zk_91 (by decide) rfl rfl).trans ?_
          exact R_ireturn_i zf94_72 zr_94
        · refine (R_iconst zf94_37 zw_m1 rfl).trans ?_
          exact R_ireturn_i zf94_38 zr_94
-- CannonPost.wind(II)Z at 0
theorem q95_0 (d : Nat) (x0 : Int) (x1 : Int) (h : MH) : Run (d + 1) 95 0 [.inr (.inr (.inl 0)), .inl x0, .inl x1] [] h = (cI (Run d 61 0 [.inr (.inr (.inl 2))] [] h) fun a2_ h1_ => (if a2_ = 0 then some (some (.inl 0), h1_) else (if x0 < 0 then some (some (.inl 0), h1_) else (if 9 < x0 then some (some (.inl 0), h1_) else (cI (Run d 74 0 [.inl x1] [] h1_) fun a7_ h6_ => (if a7_ = 0 then some (some (.inl 0), h6_) else (cI (Run d 96 0 [.inr (.inr (.inl 12)), .inl x0, .inl x1] [] h6_) fun a10_ h9_ => (if a10_ = 0 then (cV (Run d 77 0 [.inr (.inr (.inl 11)), .inr (.inr (.inl 12))] [] h9_) fun h12_ => some (some (.inl 1), (up (up h12_ 91 1 x0) 91 2 x1))) else some (some (.inl 0), h9_))))))))) := by
  refine (R_aload_n zf95_0 rfl zlt_0 rfl).trans ?_
  refine (R_getR zf95_1 zo_95 zfl_11_19 zk1_0 zft_11_1 zmr_0_1 rfl).trans ?_
  refine (R_vcallI zf95_4 zo_95 zvl_11_159 (by rw [zr_61]; rfl) zl_61 (Nat.le_of_ble_eq_true rfl) rfl rfl (Nat.le_of_ble_eq_true rfl) (Nat.le_of_ble_eq_true rfl) (es := [.inr (.inr (.inl 2))]) rfl rfl zk1_2 zo_61).trans ?_
  refine congrArg (cI _) (funext fun a2_ => funext fun h1_ => ?_)
  refine (R_if_eq (t := 39) zf95_7 rfl rfl).trans ?_
  refine ite_congr rfl (fun c3_ => ?_) (fun c3_ => ?_)
  · refine (R_iconst zf95_39 zw_0 rfl).trans ?_
    exact R_ireturn zf95_40 (by rw [zr_95]; rfl)
  · refine (R_iload_n zf95_10 rfl rfl).trans ?_
    refine (R_if_lt (t := 39) zf95_11 rfl rfl).trans ?_
    refine ite_congr rfl (fun c4_ => ?_) (fun c4_ => ?_)
    · refine (R_iconst zf95_39 zw_0 rfl).trans ?_
      exact R_ireturn zf95_40 (by rw [zr_95]; rfl)
    · refine (R_iload_n zf95_14 rfl rfl).trans ?_
      refine (R_bipush zf95_15 zb_9 rfl).trans ?_
      refine (R_icmp_gt (t := 39) zf95_17 rfl rfl).trans ?_
      refine ite_congr rfl (fun c5_ => ?_) (fun c5_ => ?_)
      · refine (R_iconst zf95_39 zw_0 rfl).trans ?_
        exact R_ireturn zf95_40 (by rw [zr_95]; rfl)
      · refine (R_iload_n zf95_20 rfl rfl).trans ?_
        refine (R_callI zf95_21 zo_95 zsl_11_228 (by rw [zr_74]; rfl) zl_74 (Nat.le_of_ble_eq_true rfl) rfl rfl (Nat.le_of_ble_eq_true rfl) (Nat.le_of_ble_eq_true rfl) (es := [.inl x1]) rfl rfl).trans ?_
        refine congrArg (cI _) (funext fun a7_ => funext fun h6_ => ?_)
        refine (R_if_eq (t := 39) zf95_24 rfl rfl).trans ?_
        refine ite_congr rfl (fun c8_ => ?_) (fun c8_ => ?_)
        · refine (R_iconst zf95_39 zw_0 rfl).trans ?_
          exact R_ireturn zf95_40 (by rw [zr_95]; rfl)
        · refine (R_aload_n zf95_27 rfl zlt_0 rfl).trans ?_
          refine (R_getR zf95_28 zo_95 zfl_11_88 zk1_0 zft_11_10 zmr_0_10 rfl).trans ?_
          refine (R_iload_n zf95_31 rfl rfl).trans ?_
          refine (R_iload_n zf95_32 rfl rfl).trans ?_
          refine (R_vcallI zf95_33 zo_95 zvl_11_246 (by rw [zr_96]; rfl) zl_96 (Nat.le_of_ble_eq_true rfl) rfl rfl (Nat.le_of_ble_eq_true rfl) (Nat.le_of_ble_eq_true rfl) (es := [.inr (.inr (.inl 12)), .inl x0, .inl x1]) rfl rfl zk1_12 zo_96).trans ?_
          refine congrArg (cI _) (funext fun a10_ => funext fun h9_ => ?_)
          refine (R_if_eq (t := 41) zf95_36 rfl rfl).trans ?_
          refine ite_congr rfl (fun c11_ => ?_) (fun c11_ => ?_)
          · refine (R_aload_n zf95_41 rfl zlt_0 rfl).trans ?_
            refine (R_getR zf95_42 zo_95 zfl_11_81 zk1_0 zft_11_9 zmr_0_9 rfl).trans ?_
            refine (R_aload_n zf95_45 rfl zlt_0 rfl).trans ?_
            refine (R_getR zf95_46 zo_95 zfl_11_88 zk1_0 zft_11_10 zmr_0_10 rfl).trans ?_
            refine (R_vcallV zf95_49 zo_95 zvl_11_235 zr_77 zl_77 (Nat.le_of_ble_eq_true rfl) rfl rfl (Nat.le_of_ble_eq_true rfl) (Nat.le_of_ble_eq_true rfl) (es := [.inr (.inr (.inl 11)), .inr (.inr (.inl 12))]) rfl rfl zk1_11 zo_77).trans ?_
            refine congrArg (cV _) (funext fun h12_ => ?_)
            refine (R_aload_n zf95_52 rfl zlt_0 rfl).trans ?_
            refine (R_getR zf95_53 zo_95 zfl_11_88 zk1_0 zft_11_10 zmr_0_10 rfl).trans ?_
            refine (R_getR zf95_56 zo_95 zfl_11_162 zk1_12 zft_9_0 zmr_12_0 rfl).trans ?_
            refine (R_iconst zf95_59 zw_1 rfl).trans ?_
            refine (R_iload_n zf95_60 rfl rfl).trans ?_
            refine (R_iastc zf95_61 zk_91 (by decide) rfl rfl).trans ?_
            refine (R_aload_n zf95_62 rfl zlt_0 rfl).trans ?_
            refine (R_getR zf95_63 zo_95 zfl_11_88 zk1_0 zft_11_10 zmr_0_10 rfl).trans ?_
            refine (R_getR zf95_66 zo_95 zfl_11_162 zk1_12 zft_9_0 zmr_12_0 rfl).trans ?_
            refine (R_iconst zf95_69 zw_2 rfl).trans ?_
            refine (R_iload_n zf95_70 rfl rfl).trans ?_
            refine (R_iastc zf95_71 zk_91 (by decide) rfl rfl).trans ?_
            refine (R_iconst zf95_72 zw_1 rfl).trans ?_
            exact R_ireturn zf95_73 (by rw [zr_95]; rfl)
          · refine (R_iconst zf95_39 zw_0 rfl).trans ?_
            exact R_ireturn zf95_40 (by rw [zr_95]; rfl)
-- CannonPost.damp(I)Z at 0
theorem q97_0 (d : Nat) (x0 : Int) (h : MH) : Run (d + 1) 97 0 [.inr (.inr (.inl 0)), .inl x0] [] h = (cI (Run d 61 0 [.inr (.inr (.inl 2))] [] h) fun a2_ h1_ => (if a2_ = 0 then some (some (.inl 0), h1_) else (if x0 < 0 then some (some (.inl 0), h1_) else (if 9 < x0 then some (some (.inl 0), h1_) else (if ¬ x0 = (h1_ 91 3) then (cV (Run d 77 0 [.inr (.inr (.inl 11)), .inr (.inr (.inl 12))] [] h1_) fun h7_ => some (some (.inl 1), (up h7_ 91 3 x0))) else some (some (.inl 0), h1_)))))) := by
  refine (R_aload_n zf97_0 rfl zlt_0 rfl).trans ?_
  refine (R_getR zf97_1 zo_97 zfl_11_19 zk1_0 zft_11_1 zmr_0_1 rfl).trans ?_
  refine (R_vcallI zf97_4 zo_97 zvl_11_159 (by rw [zr_61]; rfl) zl_61 (Nat.le_of_ble_eq_true rfl) rfl rfl (Nat.le_of_ble_eq_true rfl) (Nat.le_of_ble_eq_true rfl) (es := [.inr (.inr (.inl 2))]) rfl rfl zk1_2 zo_61).trans ?_
  refine congrArg (cI _) (funext fun a2_ => funext fun h1_ => ?_)
  refine (R_if_eq (t := 33) zf97_7 rfl rfl).trans ?_
  refine ite_congr rfl (fun c3_ => ?_) (fun c3_ => ?_)
  · refine (R_iconst zf97_33 zw_0 rfl).trans ?_
    exact R_ireturn zf97_34 (by rw [zr_97]; rfl)
  · refine (R_iload_n zf97_10 rfl rfl).trans ?_
    refine (R_if_lt (t := 33) zf97_11 rfl rfl).trans ?_
    refine ite_congr rfl (fun c4_ => ?_) (fun c4_ => ?_)
    · refine (R_iconst zf97_33 zw_0 rfl).trans ?_
      exact R_ireturn zf97_34 (by rw [zr_97]; rfl)
    · refine (R_iload_n zf97_14 rfl rfl).trans ?_
      refine (R_bipush zf97_15 zb_9 rfl).trans ?_
      refine (R_icmp_gt (t := 33) zf97_17 rfl rfl).trans ?_
      refine ite_congr rfl (fun c5_ => ?_) (fun c5_ => ?_)
      · refine (R_iconst zf97_33 zw_0 rfl).trans ?_
        exact R_ireturn zf97_34 (by rw [zr_97]; rfl)
      · refine (R_iload_n zf97_20 rfl rfl).trans ?_
        refine (R_aload_n zf97_21 rfl zlt_0 rfl).trans ?_
        refine (R_getR zf97_22 zo_97 zfl_11_88 zk1_0 zft_11_10 zmr_0_10 rfl).trans ?_
        refine (R_getR zf97_25 zo_97 zfl_11_162 zk1_12 zft_9_0 zmr_12_0 rfl).trans ?_
        refine (R_iconst zf97_28 zw_3 rfl).trans ?_
        refine (R_ialdc zf97_29 zk_91 (by decide) rfl rfl).trans ?_
        refine (R_icmp_ne (t := 35) zf97_30 rfl rfl).trans ?_
        refine ite_congr rfl (fun c6_ => ?_) (fun c6_ => ?_)
        · refine (R_aload_n zf97_35 rfl zlt_0 rfl).trans ?_
          refine (R_getR zf97_36 zo_97 zfl_11_81 zk1_0 zft_11_9 zmr_0_9 rfl).trans ?_
          refine (R_aload_n zf97_39 rfl zlt_0 rfl).trans ?_
          refine (R_getR zf97_40 zo_97 zfl_11_88 zk1_0 zft_11_10 zmr_0_10 rfl).trans ?_
          refine (R_vcallV zf97_43 zo_97 zvl_11_235 zr_77 zl_77 (Nat.le_of_ble_eq_true rfl) rfl rfl (Nat.le_of_ble_eq_true rfl) (Nat.le_of_ble_eq_true rfl) (es := [.inr (.inr (.inl 11)), .inr (.inr (.inl 12))]) rfl rfl zk1_11 zo_77).trans ?_
          refine congrArg (cV _) (funext fun h7_ => ?_)
          refine (R_aload_n zf97_46 rfl zlt_0 rfl).trans ?_
          refine (R_getR zf97_47 zo_97 zfl_11_88 zk1_0 zft_11_10 zmr_0_10 rfl).trans ?_
          refine (R_getR zf97_50 zo_97 zfl_11_162 zk1_12 zft_9_0 zmr_12_0 rfl).trans ?_
          refine (R_iconst zf97_53 zw_3 rfl).trans ?_
          refine (R_iload_n zf97_54 rfl rfl).trans ?_
          refine (R_iastc zf97_55 zk_91 (by decide) rfl rfl).trans ?_
          refine (R_iconst zf97_56 zw_1 rfl).trans ?_
          exact R_ireturn zf97_57 (by rw [zr_97]; rfl)
        · refine (R_iconst zf97_33 zw_0 rfl).trans ?_
          exact R_ireturn zf97_34 (by rw [zr_97]; rfl)
-- CannonPost.hours(I)I at 0
theorem q98_0 (d : Nat) (x0 : Int) (h : MH) : Run (d + 1) 98 0 [.inr (.inr (.inl 0)), .inl x0, vU] [] h = (cI (Run d 99 0 [.inr (.inr (.inl 0)), .inl x0] [] h) fun a2_ h1_ => (if ¬ a2_ = 0 then Run (d + 1) 98 12 [.inr (.inr (.inl 0)), .inl x0, .inl 0] [] h1_ else some (some (.inl (-1)), h1_))) := by
  refine (R_aload_n zf98_0 rfl zlt_0 rfl).trans ?_
  refine (R_iload_n zf98_1 rfl rfl).trans ?_
  refine (R_vcallI zf98_2 zo_98 zvl_11_249 (by rw [zr_99]; rfl) zl_99 (Nat.le_of_ble_eq_true rfl) rfl rfl (Nat.le_of_ble_eq_true rfl) (Nat.le_of_ble_eq_true rfl) (es := [.inr (.inr (.inl 0)), .inl x0]) rfl rfl zk1_0 zo_99).trans ?_
  refine congrArg (cI _) (funext fun a2_ => funext fun h1_ => ?_)
  refine (R_if_ne (t := 10) zf98_5 rfl rfl).trans ?_
  refine ite_congr rfl (fun c3_ => ?_) (fun c3_ => ?_)
  · refine (R_iconst zf98_10 zw_0 rfl).trans ?_
    refine (R_istore_n (ls' := [.inr (.inr (.inl 0)), .inl x0, .inl 0]) zf98_11 (Nat.le_of_ble_eq_true rfl) rfl rfl).trans ?_
    rfl
  · refine (R_iconst zf98_8 zw_m1 rfl).trans ?_
    exact R_ireturn_i zf98_9 zr_98
-- CannonPost.decades(IJ)I at 0
theorem q101_0 (d : Nat) (x0 : Int) (x1 : Int) (h : MH) : Run (d + 1) 101 0 [.inr (.inr (.inl 0)), .inl x0, .inr (.inl x1), vU, vU, vU, vU] [] h = (cI (Run d 99 0 [.inr (.inr (.inl 0)), .inl x0] [] h) fun a2_ h1_ => (if ¬ a2_ = 0 then Run (d + 1) 101 16 [.inr (.inr (.inl 0)), .inl x0, .inr (.inl x1), vU, .inr (.inl x1), vU, .inl 0] [] h1_ else some (some (.inl (-1)), h1_))) := by
  refine (R_aload_n zf101_0 rfl zlt_0 rfl).trans ?_
  refine (R_iload_n zf101_1 rfl rfl).trans ?_
  refine (R_vcallI zf101_2 zo_101 zvl_11_249 (by rw [zr_99]; rfl) zl_99 (Nat.le_of_ble_eq_true rfl) rfl rfl (Nat.le_of_ble_eq_true rfl) (Nat.le_of_ble_eq_true rfl) (es := [.inr (.inr (.inl 0)), .inl x0]) rfl rfl zk1_0 zo_99).trans ?_
  refine congrArg (cI _) (funext fun a2_ => funext fun h1_ => ?_)
  refine (R_if_ne (t := 10) zf101_5 rfl rfl).trans ?_
  refine ite_congr rfl (fun c3_ => ?_) (fun c3_ => ?_)
  · refine (R_lload_n zf101_10 rfl rfl).trans ?_
    refine (R_lstore (ls' := [.inr (.inr (.inl 0)), .inl x0, .inr (.inl x1), vU, .inr (.inl x1), vU, vU]) zf101_11 (Nat.le_of_ble_eq_true rfl) rfl rfl).trans ?_
    refine (R_iconst zf101_13 zw_0 rfl).trans ?_
    refine (R_istore (ls' := [.inr (.inr (.inl 0)), .inl x0, .inr (.inl x1), vU, .inr (.inl x1), vU, .inl 0]) zf101_14 (Nat.le_of_ble_eq_true rfl) rfl rfl).trans ?_
    rfl
  · refine (R_iconst zf101_8 zw_m1 rfl).trans ?_
    exact R_ireturn_i zf101_9 zr_101
-- CannonPost.undo()I at 0
theorem q106_0 (d : Nat) (h : MH) : Run (d + 1) 106 0 [.inr (.inr (.inl 0))] [] h = (cI (Run d 107 0 [.inr (.inr (.inl 11)), .inr (.inr (.inl 12))] [] h) fun a2_ h1_ => (if a2_ = 0 then some (some (.inl (-1)), h1_) else some (some (.inl (h1_ 11 0)), h1_))) := by
  refine (R_aload_n zf106_0 rfl zlt_0 rfl).trans ?_
  refine (R_getR zf106_1 zo_106 zfl_11_81 zk1_0 zft_11_9 zmr_0_9 rfl).trans ?_
  refine (R_aload_n zf106_4 rfl zlt_0 rfl).trans ?_
  refine (R_getR zf106_5 zo_106 zfl_11_88 zk1_0 zft_11_10 zmr_0_10 rfl).trans ?_
  refine (R_vcallI zf106_8 zo_106 zvl_11_259 (by rw [zr_107]; rfl) zl_107 (Nat.le_of_ble_eq_true rfl) rfl rfl (Nat.le_of_ble_eq_true rfl) (Nat.le_of_ble_eq_true rfl) (es := [.inr (.inr (.inl 11)), .inr (.inr (.inl 12))]) rfl rfl zk1_11 zo_107).trans ?_
  refine congrArg (cI _) (funext fun a2_ => funext fun h1_ => ?_)
  refine (R_if_eq (t := 24) zf106_11 rfl rfl).trans ?_
  refine ite_congr rfl (fun c3_ => ?_) (fun c3_ => ?_)
  · refine (R_iconst zf106_24 zw_m1 rfl).trans ?_
    exact R_ireturn_i zf106_25 zr_106
  · refine (R_aload_n zf106_14 rfl zlt_0 rfl).trans ?_
    refine (R_getR zf106_15 zo_106 zfl_11_81 zk1_0 zft_11_9 zmr_0_9 rfl).trans ?_
    refine (R_getI zf106_18 zo_106 zfl_11_222 zk1_11 zft_2_0 rfl).trans ?_
    refine (R_goto (t := 25) zf106_21 rfl).trans ?_
    exact R_ireturn_i zf106_25 zr_106
-- CannonPost.log(II)I at 0
theorem q108_0 (d : Nat) (x0 : Int) (x1 : Int) (h : MH) : Run (d + 1) 108 0 [.inr (.inr (.inl 0)), .inl x0, .inl x1] [] h = (if x0 < 0 then some (some (.inl (-1000000)), h) else (cI (Run d 69 0 [.inr (.inr (.inl 12))] [] h) fun a3_ h2_ => (if a3_ ≤ x0 then some (some (.inl (-1000000)), h2_) else (if x1 < 0 then some (some (.inl (-1000000)), h2_) else (if x1 < 4 then (cI (Run d 109 0 [.inr (.inr (.inl 12)), .inl x0, .inl x1] [] h2_) fun a8_ h7_ => some (some (.inl a8_), h7_)) else some (some (.inl (-1000000)), h2_)))))) := by
  refine (R_iload_n zf108_0 rfl rfl).trans ?_
  refine (R_if_lt (t := 24) zf108_1 rfl rfl).trans ?_
  refine ite_congr rfl (fun c1_ => ?_) (fun c1_ => ?_)
  · refine (R_ldc zf108_24 zo_108 zcl_11_223 rfl).trans ?_
    exact R_ireturn_i zf108_26 zr_108
  · refine (R_iload_n zf108_4 rfl rfl).trans ?_
    refine (R_aload_n zf108_5 rfl zlt_0 rfl).trans ?_
    refine (R_getR zf108_6 zo_108 zfl_11_88 zk1_0 zft_11_10 zmr_0_10 rfl).trans ?_
    refine (R_vcallI zf108_9 zo_108 zvl_11_219 (by rw [zr_69]; rfl) zl_69 (Nat.le_of_ble_eq_true rfl) rfl rfl (Nat.le_of_ble_eq_true rfl) (Nat.le_of_ble_eq_true rfl) (es := [.inr (.inr (.inl 12))]) rfl rfl zk1_12 zo_69).trans ?_
    refine congrArg (cI _) (funext fun a3_ => funext fun h2_ => ?_)
    refine (R_icmp_ge (t := 24) zf108_12 rfl rfl).trans ?_
    refine ite_congr rfl (fun c4_ => ?_) (fun c4_ => ?_)
    · refine (R_ldc zf108_24 zo_108 zcl_11_223 rfl).trans ?_
      exact R_ireturn_i zf108_26 zr_108
    · refine (R_iload_n zf108_15 rfl rfl).trans ?_
      refine (R_if_lt (t := 24) zf108_16 rfl rfl).trans ?_
      refine ite_congr rfl (fun c5_ => ?_) (fun c5_ => ?_)
      · refine (R_ldc zf108_24 zo_108 zcl_11_223 rfl).trans ?_
        exact R_ireturn_i zf108_26 zr_108
      · refine (R_iload_n zf108_19 rfl rfl).trans ?_
        refine (R_iconst zf108_20 zw_4 rfl).trans ?_
        refine (R_icmp_lt (t := 27) zf108_21 rfl rfl).trans ?_
        refine ite_congr rfl (fun c6_ => ?_) (fun c6_ => ?_)
        · refine (R_aload_n zf108_27 rfl zlt_0 rfl).trans ?_
          refine (R_getR zf108_28 zo_108 zfl_11_88 zk1_0 zft_11_10 zmr_0_10 rfl).trans ?_
          refine (R_iload_n zf108_31 rfl rfl).trans ?_
          refine (R_iload_n zf108_32 rfl rfl).trans ?_
          refine (R_vcallI zf108_33 zo_108 zvl_11_263 (by rw [zr_109]; rfl) zl_109 (Nat.le_of_ble_eq_true rfl) rfl rfl (Nat.le_of_ble_eq_true rfl) (Nat.le_of_ble_eq_true rfl) (es := [.inr (.inr (.inl 12)), .inl x0, .inl x1]) rfl rfl zk1_12 zo_109).trans ?_
          refine congrArg (cI _) (funext fun a8_ => funext fun h7_ => ?_)
          exact R_ireturn_i zf108_36 zr_108
        · refine (R_ldc zf108_24 zo_108 zcl_11_223 rfl).trans ?_
          exact R_ireturn_i zf108_26 zr_108
-- CannonPost.image()I at 0
theorem q110_0 (d : Nat) (h : MH) : Run (d + 1) 110 0 [.inr (.inr (.inl 0))] [] h = (cI (Run d 61 0 [.inr (.inr (.inl 2))] [] h) fun a2_ h1_ => (if ¬ a2_ = 0 then (cV (Run d 111 0 [.inr (.inr (.inl 14)), .inr (.inr (.inl 12))] [] h1_) fun h4_ => some (some (.inl ((up h4_ 0 13 1) 91 4)), (up h4_ 0 13 1))) else some (some (.inl (-1)), h1_))) := by
  refine (R_aload_n zf110_0 rfl zlt_0 rfl).trans ?_
  refine (R_getR zf110_1 zo_110 zfl_11_19 zk1_0 zft_11_1 zmr_0_1 rfl).trans ?_
  refine (R_vcallI zf110_4 zo_110 zvl_11_159 (by rw [zr_61]; rfl) zl_61 (Nat.le_of_ble_eq_true rfl) rfl rfl (Nat.le_of_ble_eq_true rfl) (Nat.le_of_ble_eq_true rfl) (es := [.inr (.inr (.inl 2))]) rfl rfl zk1_2 zo_61).trans ?_
  refine congrArg (cI _) (funext fun a2_ => funext fun h1_ => ?_)
  refine (R_if_ne (t := 12) zf110_7 rfl rfl).trans ?_
  refine ite_congr rfl (fun c3_ => ?_) (fun c3_ => ?_)
  · refine (R_aload_n zf110_12 rfl zlt_0 rfl).trans ?_
    refine (R_getR zf110_13 zo_110 zfl_11_95 zk1_0 zft_11_12 zmr_0_12 rfl).trans ?_
    refine (R_aload_n zf110_16 rfl zlt_0 rfl).trans ?_
    refine (R_getR zf110_17 zo_110 zfl_11_88 zk1_0 zft_11_10 zmr_0_10 rfl).trans ?_
    refine (R_vcallV zf110_20 zo_110 zvl_11_266 zr_111 zl_111 (Nat.le_of_ble_eq_true rfl) rfl rfl (Nat.le_of_ble_eq_true rfl) (Nat.le_of_ble_eq_true rfl) (es := [.inr (.inr (.inl 14)), .inr (.inr (.inl 12))]) rfl rfl zk1_14 zo_111).trans ?_
    refine congrArg (cV _) (funext fun h4_ => ?_)
    refine (R_aload_n zf110_23 rfl zlt_0 rfl).trans ?_
    refine (R_iconst zf110_24 zw_1 rfl).trans ?_
    refine (R_putZ zf110_25 zo_110 zfl_11_155 zk1_0 zft_11_13 rfl rfl).trans ?_
    refine (R_aload_n zf110_28 rfl zlt_0 rfl).trans ?_
    refine (R_getR zf110_29 zo_110 zfl_11_88 zk1_0 zft_11_10 zmr_0_10 rfl).trans ?_
    refine (R_getR zf110_32 zo_110 zfl_11_162 zk1_12 zft_9_0 zmr_12_0 rfl).trans ?_
    refine (R_iconst zf110_35 zw_4 rfl).trans ?_
    refine (R_ialdc zf110_36 zk_91 (by decide) rfl rfl).trans ?_
    exact R_ireturn_i zf110_37 zr_110
  · refine (R_iconst zf110_10 zw_m1 rfl).trans ?_
    exact R_ireturn_i zf110_11 zr_110
-- CannonPost.back()I at 0
theorem q112_0 (d : Nat) (h : MH) : Run (d + 1) 112 0 [.inr (.inr (.inl 0))] [] h = (if ¬ (h 0 13) = 0 then (cV (Run d 111 0 [.inr (.inr (.inl 12)), .inr (.inr (.inl 14))] [] h) fun h2_ => (cV (Run d 53 0 [.inr (.inr (.inl 11))] [] h2_) fun h3_ => some (some (.inl (h3_ 91 4)), h3_))) else some (some (.inl (-1)), h)) := by
  refine (R_aload_n zf112_0 rfl zlt_0 rfl).trans ?_
  refine (R_getZ zf112_1 zo_112 zfl_11_155 zk1_0 zft_11_13 rfl).trans ?_
  refine (R_if_ne (t := 9) zf112_4 rfl rfl).trans ?_
  refine ite_congr rfl (fun c1_ => ?_) (fun c1_ => ?_)
  · refine (R_aload_n zf112_9 rfl zlt_0 rfl).trans ?_
    refine (R_getR zf112_10 zo_112 zfl_11_88 zk1_0 zft_11_10 zmr_0_10 rfl).trans ?_
    refine (R_aload_n zf112_13 rfl zlt_0 rfl).trans ?_
    refine (R_getR zf112_14 zo_112 zfl_11_95 zk1_0 zft_11_12 zmr_0_12 rfl).trans ?_
    refine (R_vcallV zf112_17 zo_112 zvl_11_266 zr_111 zl_111 (Nat.le_of_ble_eq_true rfl) rfl rfl (Nat.le_of_ble_eq_true rfl) (Nat.le_of_ble_eq_true rfl) (es := [.inr (.inr (.inl 12)), .inr (.inr (.inl 14))]) rfl rfl zk1_12 zo_111).trans ?_
    refine congrArg (cV _) (funext fun h2_ => ?_)
    refine (R_aload_n zf112_20 rfl zlt_0 rfl).trans ?_
    refine (R_getR zf112_21 zo_112 zfl_11_81 zk1_0 zft_11_9 zmr_0_9 rfl).trans ?_
    refine (R_vcallV zf112_24 zo_112 zvl_11_150 zr_53 zl_53 (Nat.le_of_ble_eq_true rfl) rfl rfl (Nat.le_of_ble_eq_true rfl) (Nat.le_of_ble_eq_true rfl) (es := [.inr (.inr (.inl 11))]) rfl rfl zk1_11 zo_53).trans ?_
    refine congrArg (cV _) (funext fun h3_ => ?_)
    refine (R_aload_n zf112_27 rfl zlt_0 rfl).trans ?_
    refine (R_getR zf112_28 zo_112 zfl_11_88 zk1_0 zft_11_10 zmr_0_10 rfl).trans ?_
    refine (R_getR zf112_31 zo_112 zfl_11_162 zk1_12 zft_9_0 zmr_12_0 rfl).trans ?_
    refine (R_iconst zf112_34 zw_4 rfl).trans ?_
    refine (R_ialdc zf112_35 zk_91 (by decide) rfl rfl).trans ?_
    exact R_ireturn_i zf112_36 zr_112
  · refine (R_iconst zf112_7 zw_m1 rfl).trans ?_
    exact R_ireturn_i zf112_8 zr_112
-- CannonPost.step(III)I at 0
theorem q113_0 (d : Nat) (x0 : Int) (x1 : Int) (x2 : Int) (h : MH) : Run (d + 1) 113 0 [.inr (.inr (.inl 0)), .inl x0, .inl x1, .inl x2] [] h = (cI (Run d 114 0 [.inr (.inr (.inl 7)), .inl x0] [] h) fun a2_ h1_ => (if a2_ = 0 then some (some (.inl (-1000000)), h1_) else (if x1 < 0 then some (some (.inl (-1000000)), h1_) else (if 0 ≤ x0 ∧ x0 < 4 then (if (h1_ 31 x0.toNat) ≤ x1 then some (some (.inl (-1000000)), h1_) else (if x2 < 0 then some (some (.inl (-1000000)), h1_) else (if x2 < 4 then (cI (Run d 115 0 [.inr (.inr (.inl 7)), .inl x0, .inl x1, .inl x2] [] h1_) fun a10_ h9_ => some (some (.inl a10_), h9_)) else some (some (.inl (-1000000)), h1_)))) else none)))) := by
  refine (R_aload_n zf113_0 rfl zlt_0 rfl).trans ?_
  refine (R_getR zf113_1 zo_113 zfl_11_49 zk1_0 zft_11_5 zmr_0_5 rfl).trans ?_
  refine (R_iload_n zf113_4 rfl rfl).trans ?_
  refine (R_vcallI zf113_5 zo_113 zvl_11_308 (by rw [zr_114]; rfl) zl_114 (Nat.le_of_ble_eq_true rfl) rfl rfl (Nat.le_of_ble_eq_true rfl) (Nat.le_of_ble_eq_true rfl) (es := [.inr (.inr (.inl 7)), .inl x0]) rfl rfl zk1_7 zo_114).trans ?_
  refine congrArg (cI _) (funext fun a2_ => funext fun h1_ => ?_)
  refine (R_if_eq (t := 37) zf113_8 rfl rfl).trans ?_
  refine ite_congr rfl (fun c3_ => ?_) (fun c3_ => ?_)
  · refine (R_ldc zf113_37 zo_113 zcl_11_223 rfl).trans ?_
    exact R_ireturn_i zf113_39 zr_113
  · refine (R_iload_n zf113_11 rfl rfl).trans ?_
    refine (R_if_lt (t := 37) zf113_12 rfl rfl).trans ?_
    refine ite_congr rfl (fun c4_ => ?_) (fun c4_ => ?_)
    · refine (R_ldc zf113_37 zo_113 zcl_11_223 rfl).trans ?_
      exact R_ireturn_i zf113_39 zr_113
    · refine (R_iload_n zf113_15 rfl rfl).trans ?_
      refine (R_aload_n zf113_16 rfl zlt_0 rfl).trans ?_
      refine (R_getR zf113_17 zo_113 zfl_11_49 zk1_0 zft_11_5 zmr_0_5 rfl).trans ?_
      refine (R_getR zf113_20 zo_113 zfl_11_311 zk1_7 zft_8_0 zmr_7_0 rfl).trans ?_
      refine (R_iload_n zf113_23 rfl rfl).trans ?_
      refine (R_iald zf113_24 zk_31 rfl).trans ?_
      refine ite_congr rfl (fun c5_ => ?_) (fun _ => rfl)
      refine (R_icmp_ge (t := 37) zf113_25 rfl rfl).trans ?_
      refine ite_congr rfl (fun c6_ => ?_) (fun c6_ => ?_)
      · refine (R_ldc zf113_37 zo_113 zcl_11_223 rfl).trans ?_
        exact R_ireturn_i zf113_39 zr_113
      · refine (R_iload_n zf113_28 rfl rfl).trans ?_
        refine (R_if_lt (t := 37) zf113_29 rfl rfl).trans ?_
        refine ite_congr rfl (fun c7_ => ?_) (fun c7_ => ?_)
        · refine (R_ldc zf113_37 zo_113 zcl_11_223 rfl).trans ?_
          exact R_ireturn_i zf113_39 zr_113
        · refine (R_iload_n zf113_32 rfl rfl).trans ?_
          refine (R_iconst zf113_33 zw_4 rfl).trans ?_
          refine (R_icmp_lt (t := 40) zf113_34 rfl rfl).trans ?_
          refine ite_congr rfl (fun c8_ => ?_) (fun c8_ => ?_)
          · refine (R_aload_n zf113_40 rfl zlt_0 rfl).trans ?_
            refine (R_getR zf113_41 zo_113 zfl_11_49 zk1_0 zft_11_5 zmr_0_5 rfl).trans ?_
            refine (R_iload_n zf113_44 rfl rfl).trans ?_
            refine (R_iload_n zf113_45 rfl rfl).trans ?_
            refine (R_iload_n zf113_46 rfl rfl).trans ?_
            refine (R_vcallI zf113_47 zo_113 zvl_11_314 (by rw [zr_115]; rfl) zl_115 (Nat.le_of_ble_eq_true rfl) rfl rfl (Nat.le_of_ble_eq_true rfl) (Nat.le_of_ble_eq_true rfl) (es := [.inr (.inr (.inl 7)), .inl x0, .inl x1, .inl x2]) rfl rfl zk1_7 zo_115).trans ?_
            refine congrArg (cI _) (funext fun a10_ => funext fun h9_ => ?_)
            exact R_ireturn_i zf113_50 zr_113
          · refine (R_ldc zf113_37 zo_113 zcl_11_223 rfl).trans ?_
            exact R_ireturn_i zf113_39 zr_113
-- CannonPost.run(II)I at 0
theorem q116_0 (d : Nat) (x0 : Int) (x1 : Int) (h : MH) : Run (d + 1) 116 0 [.inr (.inr (.inl 0)), .inl x0, .inl x1, vU] [] h = (cI (Run d 61 0 [.inr (.inr (.inl 2))] [] h) fun a2_ h1_ => (if a2_ = 0 then some (some (.inl (-1000000)), h1_) else (cI (Run d 114 0 [.inr (.inr (.inl 7)), .inl x0] [] h1_) fun a5_ h4_ => (if a5_ = 0 then some (some (.inl (-1000000)), h4_) else (if x1 < 0 then some (some (.inl (-1000000)), h4_) else (if x1 ≤ 1 then (cV (Run d 111 0 [.inr (.inr (.inl 13)), .inr (.inr (.inl 12))] [] h4_) fun h9_ => (cI (Run d 117 0 [.inr (.inr (.inl 0)), .inr (.inr (.inl 13)), .inl x0, .inl 0, vU, vU, vU] [] h9_) fun a11_ h10_ => (if ¬ x1 = 1 then (if 0 ≤ x0 ∧ x0 < 4 then (if ¬ a11_ = (h10_ 31 x0.toNat) then some (some (.inl a11_), h10_) else some (some (.inl (-1)), h10_)) else none) else some (some (.inl (wI ((h10_ 91 0) - (h10_ 93 0)))), h10_)))) else some (some (.inl (-1000000)), h4_))))))) := by
  refine (R_aload_n zf116_0 rfl zlt_0 rfl).trans ?_
  refine (R_getR zf116_1 zo_116 zfl_11_19 zk1_0 zft_11_1 zmr_0_1 rfl).trans ?_
  refine (R_vcallI zf116_4 zo_116 zvl_11_159 (by rw [zr_61]; rfl) zl_61 (Nat.le_of_ble_eq_true rfl) rfl rfl (Nat.le_of_ble_eq_true rfl) (Nat.le_of_ble_eq_true rfl) (es := [.inr (.inr (.inl 2))]) rfl rfl zk1_2 zo_61).trans ?_
  refine congrArg (cI _) (funext fun a2_ => funext fun h1_ => ?_)
  refine (R_if_eq (t := 30) zf116_7 rfl rfl).trans ?_
  refine ite_congr rfl (fun c3_ => ?_) (fun c3_ => ?_)
  · refine (R_ldc zf116_30 zo_116 zcl_11_223 rfl).trans ?_
    exact R_ireturn_i zf116_32 zr_116
  · refine (R_aload_n zf116_10 rfl zlt_0 rfl).trans ?_
    refine (R_getR zf116_11 zo_116 zfl_11_49 zk1_0 zft_11_5 zmr_0_5 rfl).trans ?_
    refine (R_iload_n zf116_14 rfl rfl).trans ?_
    refine (R_vcallI zf116_15 zo_116 zvl_11_308 (by rw [zr_114]; rfl) zl_114 (Nat.le_of_ble_eq_true rfl) rfl rfl (Nat.le_of_ble_eq_true rfl) (Nat.le_of_ble_eq_true rfl) (es := [.inr (.inr (.inl 7)), .inl x0]) rfl rfl zk1_7 zo_114).trans ?_
    refine congrArg (cI _) (funext fun a5_ => funext fun h4_ => ?_)
    refine (R_if_eq (t := 30) zf116_18 rfl rfl).trans ?_
    refine ite_congr rfl (fun c6_ => ?_) (fun c6_ => ?_)
    · refine (R_ldc zf116_30 zo_116 zcl_11_223 rfl).trans ?_
      exact R_ireturn_i zf116_32 zr_116
    · refine (R_iload_n zf116_21 rfl rfl).trans ?_
      refine (R_if_lt (t := 30) zf116_22 rfl rfl).trans ?_
      refine ite_congr rfl (fun c7_ => ?_) (fun c7_ => ?_)
      · refine (R_ldc zf116_30 zo_116 zcl_11_223 rfl).trans ?_
        exact R_ireturn_i zf116_32 zr_116
      · refine (R_iload_n zf116_25 rfl rfl).trans ?_
        refine (R_iconst zf116_26 zw_1 rfl).trans ?_
        refine (R_icmp_le (t := 33) zf116_27 rfl rfl).trans ?_
        refine ite_congr rfl (fun c8_ => ?_) (fun c8_ => ?_)
        · refine (R_aload_n zf116_33 rfl zlt_0 rfl).trans ?_
          refine (R_getR zf116_34 zo_116 zfl_11_92 zk1_0 zft_11_11 zmr_0_11 rfl).trans ?_
          refine (R_aload_n zf116_37 rfl zlt_0 rfl).trans ?_
          refine (R_getR zf116_38 zo_116 zfl_11_88 zk1_0 zft_11_10 zmr_0_10 rfl).trans ?_
          refine (R_vcallV zf116_41 zo_116 zvl_11_266 zr_111 zl_111 (Nat.le_of_ble_eq_true rfl) rfl rfl (Nat.le_of_ble_eq_true rfl) (Nat.le_of_ble_eq_true rfl) (es := [.inr (.inr (.inl 13)), .inr (.inr (.inl 12))]) rfl rfl zk1_13 zo_111).trans ?_
          refine congrArg (cV _) (funext fun h9_ => ?_)
          refine (R_aload_n zf116_44 rfl zlt_0 rfl).trans ?_
          refine (R_aload_n zf116_45 rfl zlt_0 rfl).trans ?_
          refine (R_getR zf116_46 zo_116 zfl_11_92 zk1_0 zft_11_11 zmr_0_11 rfl).trans ?_
          refine (R_iload_n zf116_49 rfl rfl).trans ?_
          refine (R_iconst zf116_50 zw_0 rfl).trans ?_
          refine (R_vcallI zf116_51 zo_116 zvl_11_318 (by rw [zr_117]; rfl) zl_117 (Nat.le_of_ble_eq_true rfl) rfl rfl (Nat.le_of_ble_eq_true rfl) (Nat.le_of_ble_eq_true rfl) (es := [.inr (.inr (.inl 0)), .inr (.inr (.inl 13)), .inl x0, .inl 0, vU, vU, vU]) rfl rfl zk1_0 zo_117).trans ?_
          refine congrArg (cI _) (funext fun a11_ => funext fun h10_ => ?_)
          refine (R_istore_n (ls' := [.inr (.inr (.inl 0)), .inl x0, .inl x1, .inl a11_]) zf116_54 (Nat.le_of_ble_eq_true rfl) rfl rfl).trans ?_
          refine (R_iload_n zf116_55 rfl rfl).trans ?_
          refine (R_iconst zf116_56 zw_1 rfl).trans ?_
          refine (R_icmp_ne (t := 80) zf116_57 rfl rfl).trans ?_
          refine ite_congr rfl (fun c12_ => ?_) (fun c12_ => ?_)
          · refine (R_iload_n zf116_80 rfl rfl).trans ?_
            refine (R_aload_n zf116_81 rfl zlt_0 rfl).trans ?_
            refine (R_getR zf116_82 zo_116 zfl_11_49 zk1_0 zft_11_5 zmr_0_5 rfl).trans ?_
            refine (R_getR zf116_85 zo_116 zfl_11_311 zk1_7 zft_8_0 zmr_7_0 rfl).trans ?_
            refine (R_iload_n zf116_88 rfl rfl).trans ?_
            refine (R_iald zf116_89 zk_31 rfl).trans ?_
            refine ite_congr rfl (fun c13_ => ?_) (fun _ => rfl)
            refine (R_icmp_ne (t := 97) zf116_90 rfl rfl).trans ?_
            refine ite_congr rfl (fun c14_ => ?_) (fun c14_ => ?_)
            · refine (R_iload_n zf116_97 rfl rfl).trans ?_
              exact R_ireturn_i zf116_98 zr_116
            · refine (R_iconst zf116_93 zw_m1 rfl).trans ?_
              refine (R_goto (t := 98) zf116_94 rfl).trans ?_
              exact R_ireturn_i zf116_98 zr_116
          · refine (R_aload_n zf116_60 rfl zlt_0 rfl).trans ?_
            refine (R_getR zf116_61 zo_116 zfl_11_88 zk1_0 zft_11_10 zmr_0_10 rfl).trans ?_
            refine (R_getR zf116_64 zo_116 zfl_11_162 zk1_12 zft_9_0 zmr_12_0 rfl).trans ?_
            refine (R_iconst zf116_67 zw_0 rfl).trans ?_
            refine (R_ialdc zf116_68 zk_91 (by decide) rfl rfl).trans ?_
            refine (R_aload_n zf116_69 rfl zlt_0 rfl).trans ?_
            refine (R_getR zf116_70 zo_116 zfl_11_92 zk1_0 zft_11_11 zmr_0_11 rfl).trans ?_
            refine (R_getR zf116_73 zo_116 zfl_11_162 zk1_13 zft_9_0 zmr_13_0 rfl).trans ?_
            refine (R_iconst zf116_76 zw_0 rfl).trans ?_
            refine (R_ialdc zf116_77 zk_93 (by decide) rfl rfl).trans ?_
            refine (R_isub zf116_78 rfl).trans ?_
            exact R_ireturn_i zf116_79 zr_116
        · refine (R_ldc zf116_30 zo_116 zcl_11_223 rfl).trans ?_
          exact R_ireturn_i zf116_32 zr_116
-- CannonPost.perform(I)I at 0
theorem q120_0 (d : Nat) (x0 : Int) (h : MH) : Run (d + 1) 120 0 [.inr (.inr (.inl 0)), .inl x0] [] h = (cI (Run d 61 0 [.inr (.inr (.inl 2))] [] h) fun a2_ h1_ => (if a2_ = 0 then some (some (.inl (-1)), h1_) else (cI (Run d 114 0 [.inr (.inr (.inl 7)), .inl x0] [] h1_) fun a5_ h4_ => (if ¬ a5_ = 0 then (cI (Run d 117 0 [.inr (.inr (.inl 0)), .inr (.inr (.inl 12)), .inl x0, .inl 1, vU, vU, vU] [] h4_) fun a8_ h7_ => some (some (.inl a8_), h7_)) else some (some (.inl (-1)), h4_))))) := by
  refine (R_aload_n zf120_0 rfl zlt_0 rfl).trans ?_
  refine (R_getR zf120_1 zo_120 zfl_11_19 zk1_0 zft_11_1 zmr_0_1 rfl).trans ?_
  refine (R_vcallI zf120_4 zo_120 zvl_11_159 (by rw [zr_61]; rfl) zl_61 (Nat.le_of_ble_eq_true rfl) rfl rfl (Nat.le_of_ble_eq_true rfl) (Nat.le_of_ble_eq_true rfl) (es := [.inr (.inr (.inl 2))]) rfl rfl zk1_2 zo_61).trans ?_
  refine congrArg (cI _) (funext fun a2_ => funext fun h1_ => ?_)
  refine (R_if_eq (t := 21) zf120_7 rfl rfl).trans ?_
  refine ite_congr rfl (fun c3_ => ?_) (fun c3_ => ?_)
  · refine (R_iconst zf120_21 zw_m1 rfl).trans ?_
    exact R_ireturn_i zf120_22 zr_120
  · refine (R_aload_n zf120_10 rfl zlt_0 rfl).trans ?_
    refine (R_getR zf120_11 zo_120 zfl_11_49 zk1_0 zft_11_5 zmr_0_5 rfl).trans ?_
    refine (R_iload_n zf120_14 rfl rfl).trans ?_
    refine (R_vcallI zf120_15 zo_120 zvl_11_308 (by rw [zr_114]; rfl) zl_114 (Nat.le_of_ble_eq_true rfl) rfl rfl (Nat.le_of_ble_eq_true rfl) (Nat.le_of_ble_eq_true rfl) (es := [.inr (.inr (.inl 7)), .inl x0]) rfl rfl zk1_7 zo_114).trans ?_
    refine congrArg (cI _) (funext fun a5_ => funext fun h4_ => ?_)
    refine (R_if_ne (t := 23) zf120_18 rfl rfl).trans ?_
    refine ite_congr rfl (fun c6_ => ?_) (fun c6_ => ?_)
    · refine (R_aload_n zf120_23 rfl zlt_0 rfl).trans ?_
      refine (R_aload_n zf120_24 rfl zlt_0 rfl).trans ?_
      refine (R_getR zf120_25 zo_120 zfl_11_88 zk1_0 zft_11_10 zmr_0_10 rfl).trans ?_
      refine (R_iload_n zf120_28 rfl rfl).trans ?_
      refine (R_iconst zf120_29 zw_1 rfl).trans ?_
      refine (R_vcallI zf120_30 zo_120 zvl_11_318 (by rw [zr_117]; rfl) zl_117 (Nat.le_of_ble_eq_true rfl) rfl rfl (Nat.le_of_ble_eq_true rfl) (Nat.le_of_ble_eq_true rfl) (es := [.inr (.inr (.inl 0)), .inr (.inr (.inl 12)), .inl x0, .inl 1, vU, vU, vU]) rfl rfl zk1_0 zo_117).trans ?_
      refine congrArg (cI _) (funext fun a8_ => funext fun h7_ => ?_)
      exact R_ireturn_i zf120_33 zr_120
    · refine (R_iconst zf120_21 zw_m1 rfl).trans ?_
      exact R_ireturn_i zf120_22 zr_120
-- CannonPost.lands(IIIII)I at 0
theorem q121_0 (d : Nat) (x0 : Int) (x1 : Int) (x2 : Int) (x3 : Int) (x4 : Int) (h : MH) : Run (d + 1) 121 0 [.inr (.inr (.inl 0)), .inl x0, .inl x1, .inl x2, .inl x3, .inl x4, vU] [] h = (cI (Run d 122 0 [.inr (.inr (.inl 0)), .inl x0, .inl x1, .inl x2, .inl x3] [] h) fun a2_ h1_ => (if a2_ = 0 then some (some (.inl (-1000000)), h1_) else (if x4 < 0 then some (some (.inl (-1000000)), h1_) else (if x4 ≤ 1 then (cI (Run d 79 0 [.inr (.inr (.inl 8)), .inr (.inr (.inl 12)), .inl x0, .inl x1, .inl x2, .inl x3, vU, vU] [] h1_) fun a7_ h6_ => (if ¬ x4 = 1 then (cI (Run d 87 0 [.inr (.inr (.inl 2)), .inl a7_, vU, vU, vU] [] h6_) fun a10_ h9_ => some (some (.inl a10_), h9_)) else some (some (.inl a7_), h6_))) else some (some (.inl (-1000000)), h1_))))) := by
  refine (R_aload_n zf121_0 rfl zlt_0 rfl).trans ?_
  refine (R_iload_n zf121_1 rfl rfl).trans ?_
  refine (R_iload_n zf121_2 rfl rfl).trans ?_
  refine (R_iload_n zf121_3 rfl rfl).trans ?_
  refine (R_iload zf121_4 rfl rfl).trans ?_
  refine (R_vcallI zf121_6 zo_121 zvl_11_329 (by rw [zr_122]; rfl) zl_122 (Nat.le_of_ble_eq_true rfl) rfl rfl (Nat.le_of_ble_eq_true rfl) (Nat.le_of_ble_eq_true rfl) (es := [.inr (.inr (.inl 0)), .inl x0, .inl x1, .inl x2, .inl x3]) rfl rfl zk1_0 zo_122).trans ?_
  refine congrArg (cI _) (funext fun a2_ => funext fun h1_ => ?_)
  refine (R_if_eq (t := 23) zf121_9 rfl rfl).trans ?_
  refine ite_congr rfl (fun c3_ => ?_) (fun c3_ => ?_)
  · refine (R_ldc zf121_23 zo_121 zcl_11_223 rfl).trans ?_
    exact R_ireturn_i zf121_25 zr_121
  · refine (R_iload zf121_12 rfl rfl).trans ?_
    refine (R_if_lt (t := 23) zf121_14 rfl rfl).trans ?_
    refine ite_congr rfl (fun c4_ => ?_) (fun c4_ => ?_)
    · refine (R_ldc zf121_23 zo_121 zcl_11_223 rfl).trans ?_
      exact R_ireturn_i zf121_25 zr_121
    · refine (R_iload zf121_17 rfl rfl).trans ?_
      refine (R_iconst zf121_19 zw_1 rfl).trans ?_
      refine (R_icmp_le (t := 26) zf121_20 rfl rfl).trans ?_
      refine ite_congr rfl (fun c5_ => ?_) (fun c5_ => ?_)
      · refine (R_aload_n zf121_26 rfl zlt_0 rfl).trans ?_
        refine (R_getR zf121_27 zo_121 zfl_11_58 zk1_0 zft_11_6 zmr_0_6 rfl).trans ?_
        refine (R_aload_n zf121_30 rfl zlt_0 rfl).trans ?_
        refine (R_getR zf121_31 zo_121 zfl_11_88 zk1_0 zft_11_10 zmr_0_10 rfl).trans ?_
        refine (R_iload_n zf121_34 rfl rfl).trans ?_
        refine (R_iload_n zf121_35 rfl rfl).trans ?_
        refine (R_iload_n zf121_36 rfl rfl).trans ?_
        refine (R_iload zf121_37 rfl rfl).trans ?_
        refine (R_vcallI zf121_39 zo_121 zvl_11_279 (by rw [zr_79]; rfl) zl_79 (Nat.le_of_ble_eq_true rfl) rfl rfl (Nat.le_of_ble_eq_true rfl) (Nat.le_of_ble_eq_true rfl) (es := [.inr (.inr (.inl 8)), .inr (.inr (.inl 12)), .inl x0, .inl x1, .inl x2, .inl x3, vU, vU]) rfl rfl zk1_8 zo_79).trans ?_
        refine congrArg (cI _) (funext fun a7_ => funext fun h6_ => ?_)
        refine (R_istore (ls' := [.inr (.inr (.inl 0)), .inl x0, .inl x1, .inl x2, .inl x3, .inl x4, .inl a7_]) zf121_42 (Nat.le_of_ble_eq_true rfl) rfl rfl).trans ?_
        refine (R_iload zf121_44 rfl rfl).trans ?_
        refine (R_iconst zf121_46 zw_1 rfl).trans ?_
        refine (R_icmp_ne (t := 55) zf121_47 rfl rfl).trans ?_
        refine ite_congr rfl (fun c8_ => ?_) (fun c8_ => ?_)
        · refine (R_aload_n zf121_55 rfl zlt_0 rfl).trans ?_
          refine (R_getR zf121_56 zo_121 zfl_11_19 zk1_0 zft_11_1 zmr_0_1 rfl).trans ?_
          refine (R_iload zf121_59 rfl rfl).trans ?_
          refine (R_vcallI zf121_61 zo_121 zvl_11_282 (by rw [zr_87]; rfl) zl_87 (Nat.le_of_ble_eq_true rfl) rfl rfl (Nat.le_of_ble_eq_true rfl) (Nat.le_of_ble_eq_true rfl) (es := [.inr (.inr (.inl 2)), .inl a7_, vU, vU, vU]) rfl rfl zk1_2 zo_87).trans ?_
          refine congrArg (cI _) (funext fun a10_ => funext fun h9_ => ?_)
          exact R_ireturn_i zf121_64 zr_121
        · refine (R_iload zf121_50 rfl rfl).trans ?_
          refine (R_goto (t := 64) zf121_52 rfl).trans ?_
          exact R_ireturn_i zf121_64 zr_121
      · refine (R_ldc zf121_23 zo_121 zcl_11_223 rfl).trans ?_
        exact R_ireturn_i zf121_25 zr_121
-- CannonPost.aim(III)I at 0
theorem q123_0 (d : Nat) (x0 : Int) (x1 : Int) (x2 : Int) (h : MH) : Run (d + 1) 123 0 [.inr (.inr (.inl 0)), .inl x0, .inl x1, .inl x2] [] h = (cI (Run d 124 0 [.inr (.inr (.inl 0)), .inl x0, .inl x1, .inl x2] [] h) fun a2_ h1_ => (if ¬ a2_ = 0 then (cI (Run d 125 0 [.inr (.inr (.inl 8)), .inr (.inr (.inl 12)), .inl x0, .inl x1, .inl x2, vU, vU] [] h1_) fun a5_ h4_ => some (some (.inl a5_), h4_)) else some (some (.inl (-1)), h1_))) := by
  refine (R_aload_n zf123_0 rfl zlt_0 rfl).trans ?_
  refine (R_iload_n zf123_1 rfl rfl).trans ?_
  refine (R_iload_n zf123_2 rfl rfl).trans ?_
  refine (R_iload_n zf123_3 rfl rfl).trans ?_
  refine (R_vcallI zf123_4 zo_123 zvl_11_333 (by rw [zr_124]; rfl) zl_124 (Nat.le_of_ble_eq_true rfl) rfl rfl (Nat.le_of_ble_eq_true rfl) (Nat.le_of_ble_eq_true rfl) (es := [.inr (.inr (.inl 0)), .inl x0, .inl x1, .inl x2]) rfl rfl zk1_0 zo_124).trans ?_
  refine congrArg (cI _) (funext fun a2_ => funext fun h1_ => ?_)
  refine (R_if_ne (t := 12) zf123_7 rfl rfl).trans ?_
  refine ite_congr rfl (fun c3_ => ?_) (fun c3_ => ?_)
  · refine (R_aload_n zf123_12 rfl zlt_0 rfl).trans ?_
    refine (R_getR zf123_13 zo_123 zfl_11_58 zk1_0 zft_11_6 zmr_0_6 rfl).trans ?_
    refine (R_aload_n zf123_16 rfl zlt_0 rfl).trans ?_
    refine (R_getR zf123_17 zo_123 zfl_11_88 zk1_0 zft_11_10 zmr_0_10 rfl).trans ?_
    refine (R_iload_n zf123_20 rfl rfl).trans ?_
    refine (R_iload_n zf123_21 rfl rfl).trans ?_
    refine (R_iload_n zf123_22 rfl rfl).trans ?_
    refine (R_vcallI zf123_23 zo_123 zvl_11_337 (by rw [zr_125]; rfl) zl_125 (Nat.le_of_ble_eq_true rfl) rfl rfl (Nat.le_of_ble_eq_true rfl) (Nat.le_of_ble_eq_true rfl) (es := [.inr (.inr (.inl 8)), .inr (.inr (.inl 12)), .inl x0, .inl x1, .inl x2, vU, vU]) rfl rfl zk1_8 zo_125).trans ?_
    refine congrArg (cI _) (funext fun a5_ => funext fun h4_ => ?_)
    exact R_ireturn_i zf123_26 zr_123
  · refine (R_iconst zf123_10 zw_m1 rfl).trans ?_
    exact R_ireturn_i zf123_11 zr_123
-- CannonPost.route(IIII)I at 0
theorem q127_0 (d : Nat) (x0 : Int) (x1 : Int) (x2 : Int) (x3 : Int) (h : MH) : Run (d + 1) 127 0 [.inr (.inr (.inl 0)), .inl x0, .inl x1, .inl x2, .inl x3] [] h = (cI (Run d 124 0 [.inr (.inr (.inl 0)), .inl x0, .inl x1, .inl x2] [] h) fun a2_ h1_ => (if a2_ = 0 then some (some (.inl (-1)), h1_) else (if x3 < 0 then some (some (.inl (-1)), h1_) else (if x3 ≤ 1 then (cV (Run d 128 0 [.inr (.inr (.inl 9)), .inr (.inr (.inl 12)), .inl x0, .inl x1, vU, vU, vU, vU] [] h1_) fun h6_ => (if 0 ≤ x2 ∧ x2 < 8 then (if ¬ (h6_ 40 x2.toNat) = (-1) then (if ¬ x3 = 1 then (if 0 ≤ x2 ∧ x2 < 8 then some (some (.inl (h6_ 42 x2.toNat)), h6_) else none) else (if 0 ≤ x2 ∧ x2 < 8 then some (some (.inl (h6_ 41 x2.toNat)), h6_) else none)) else some (some (.inl (-1)), h6_)) else none)) else some (some (.inl (-1)), h1_))))) := by
  refine (R_aload_n zf127_0 rfl zlt_0 rfl).trans ?_
  refine (R_iload_n zf127_1 rfl rfl).trans ?_
  refine (R_iload_n zf127_2 rfl rfl).trans ?_
  refine (R_iload_n zf127_3 rfl rfl).trans ?_
  refine (R_vcallI zf127_4 zo_127 zvl_11_333 (by rw [zr_124]; rfl) zl_124 (Nat.le_of_ble_eq_true rfl) rfl rfl (Nat.le_of_ble_eq_true rfl) (Nat.le_of_ble_eq_true rfl) (es := [.inr (.inr (.inl 0)), .inl x0, .inl x1, .inl x2]) rfl rfl zk1_0 zo_124).trans ?_
  refine congrArg (cI _) (funext fun a2_ => funext fun h1_ => ?_)
  refine (R_if_eq (t := 21) zf127_7 rfl rfl).trans ?_
  refine ite_congr rfl (fun c3_ => ?_) (fun c3_ => ?_)
  · refine (R_iconst zf127_21 zw_m1 rfl).trans ?_
    exact R_ireturn_i zf127_22 zr_127
  · refine (R_iload zf127_10 rfl rfl).trans ?_
    refine (R_if_lt (t := 21) zf127_12 rfl rfl).trans ?_
    refine ite_congr rfl (fun c4_ => ?_) (fun c4_ => ?_)
    · refine (R_iconst zf127_21 zw_m1 rfl).trans ?_
      exact R_ireturn_i zf127_22 zr_127
    · refine (R_iload zf127_15 rfl rfl).trans ?_
      refine (R_iconst zf127_17 zw_1 rfl).trans ?_
      refine (R_icmp_le (t := 23) zf127_18 rfl rfl).trans ?_
      refine ite_congr rfl (fun c5_ => ?_) (fun c5_ => ?_)
      · refine (R_aload_n zf127_23 rfl zlt_0 rfl).trans ?_
        refine (R_getR zf127_24 zo_127 zfl_11_67 zk1_0 zft_11_7 zmr_0_7 rfl).trans ?_
        refine (R_aload_n zf127_27 rfl zlt_0 rfl).trans ?_
        refine (R_getR zf127_28 zo_127 zfl_11_88 zk1_0 zft_11_10 zmr_0_10 rfl).trans ?_
        refine (R_iload_n zf127_31 rfl rfl).trans ?_
        refine (R_iload_n zf127_32 rfl rfl).trans ?_
        refine (R_vcallV zf127_33 zo_127 zvl_11_341 zr_128 zl_128 (Nat.le_of_ble_eq_true rfl) rfl rfl (Nat.le_of_ble_eq_true rfl) (Nat.le_of_ble_eq_true rfl) (es := [.inr (.inr (.inl 9)), .inr (.inr (.inl 12)), .inl x0, .inl x1, vU, vU, vU, vU]) rfl rfl zk1_9 zo_128).trans ?_
        refine congrArg (cV _) (funext fun h6_ => ?_)
        refine (R_aload_n zf127_36 rfl zlt_0 rfl).trans ?_
        refine (R_getR zf127_37 zo_127 zfl_11_67 zk1_0 zft_11_7 zmr_0_7 rfl).trans ?_
        refine (R_getR zf127_40 zo_127 zfl_11_344 zk1_9 zft_7_0 zmr_9_0 rfl).trans ?_
        refine (R_iload_n zf127_43 rfl rfl).trans ?_
        refine (R_iald zf127_44 zk_40 rfl).trans ?_
        refine ite_congr rfl (fun c7_ => ?_) (fun _ => rfl)
        refine (R_iconst zf127_45 zw_m1 rfl).trans ?_
        refine (R_icmp_ne (t := 51) zf127_46 rfl rfl).trans ?_
        refine ite_congr rfl (fun c8_ => ?_) (fun c8_ => ?_)
        · refine (R_iload zf127_51 rfl rfl).trans ?_
          refine (R_iconst zf127_53 zw_1 rfl).trans ?_
          refine (R_icmp_ne (t := 69) zf127_54 rfl rfl).trans ?_
          refine ite_congr rfl (fun c9_ => ?_) (fun c9_ => ?_)
          · refine (R_aload_n zf127_69 rfl zlt_0 rfl).trans ?_
            refine (R_getR zf127_70 zo_127 zfl_11_67 zk1_0 zft_11_7 zmr_0_7 rfl).trans ?_
            refine (R_getR zf127_73 zo_127 zfl_11_350 zk1_9 zft_7_2 zmr_9_2 rfl).trans ?_
            refine (R_iload_n zf127_76 rfl rfl).trans ?_
            refine (R_iald zf127_77 zk_42 rfl).trans ?_
            refine ite_congr rfl (fun c10_ => ?_) (fun _ => rfl)
            exact R_ireturn_i zf127_78 zr_127
          · refine (R_aload_n zf127_57 rfl zlt_0 rfl).trans ?_
            refine (R_getR zf127_58 zo_127 zfl_11_67 zk1_0 zft_11_7 zmr_0_7 rfl).trans ?_
            refine (R_getR zf127_61 zo_127 zfl_11_347 zk1_9 zft_7_1 zmr_9_1 rfl).trans ?_
            refine (R_iload_n zf127_64 rfl rfl).trans ?_
            refine (R_iald zf127_65 zk_41 rfl).trans ?_
            refine ite_congr rfl (fun c11_ => ?_) (fun _ => rfl)
            refine (R_goto (t := 78) zf127_66 rfl).trans ?_
            exact R_ireturn_i zf127_78 zr_127
        · refine (R_iconst zf127_49 zw_m1 rfl).trans ?_
          exact R_ireturn_i zf127_50 zr_127
      · refine (R_iconst zf127_21 zw_m1 rfl).trans ?_
        exact R_ireturn_i zf127_22 zr_127
-- CannonPost.relay(III)I at 0
theorem q130_0 (d : Nat) (x0 : Int) (x1 : Int) (x2 : Int) (h : MH) : Run (d + 1) 130 0 [.inr (.inr (.inl 0)), .inl x0, .inl x1, .inl x2, vU] [] h = (cI (Run d 92 0 [.inl x0] [] h) fun a2_ h1_ => (if a2_ = 0 then some (some (.inl (-1)), h1_) else (cI (Run d 20 0 [.inr (.inr (.inl 2)), .inl x1] [] h1_) fun a5_ h4_ => (if a5_ = 0 then some (some (.inl (-1)), h4_) else (if x2 < 0 then some (some (.inl (-1)), h4_) else (if x2 ≤ 1 then (cI (Run d 131 0 [.inr (.inr (.inl 12)), .inl x0, .inl (h4_ 2 3), vU, vU] [] h4_) fun a10_ h9_ => (cI (Run d 132 0 [.inr (.inr (.inl 9)), .inr (.inr (.inl 12)), .inl a10_, .inl x1, vU, vU] [] h9_) fun a12_ h11_ => (if ¬ a12_ = (-1) then (if ¬ x2 = 1 then some (some (.inl (wI (a12_.tdiv 100))), h11_) else some (some (.inl (a12_.tmod 100)), h11_)) else some (some (.inl (-1)), h11_)))) else some (some (.inl (-1)), h4_))))))) := by
  refine (R_iload_n zf130_0 rfl rfl).trans ?_
  refine (R_callI zf130_1 zo_130 zsl_11_276 (by rw [zr_92]; rfl) zl_92 (Nat.le_of_ble_eq_true rfl) rfl rfl (Nat.le_of_ble_eq_true rfl) (Nat.le_of_ble_eq_true rfl) (es := [.inl x0]) rfl rfl).trans ?_
  refine congrArg (cI _) (funext fun a2_ => funext fun h1_ => ?_)
  refine (R_if_eq (t := 27) zf130_4 rfl rfl).trans ?_
  refine ite_congr rfl (fun c3_ => ?_) (fun c3_ => ?_)
  · refine (R_iconst zf130_27 zw_m1 rfl).trans ?_
    exact R_ireturn_i zf130_28 zr_130
  · refine (R_aload_n zf130_7 rfl zlt_0 rfl).trans ?_
    refine (R_getR zf130_8 zo_130 zfl_11_19 zk1_0 zft_11_1 zmr_0_1 rfl).trans ?_
    refine (R_iload_n zf130_11 rfl rfl).trans ?_
    refine (R_vcallI zf130_12 zo_130 zvl_11_168 (by rw [zr_20]; rfl) zl_20 (Nat.le_of_ble_eq_true rfl) rfl rfl (Nat.le_of_ble_eq_true rfl) (Nat.le_of_ble_eq_true rfl) (es := [.inr (.inr (.inl 2)), .inl x1]) rfl rfl zk1_2 zo_20).trans ?_
    refine congrArg (cI _) (funext fun a5_ => funext fun h4_ => ?_)
    refine (R_if_eq (t := 27) zf130_15 rfl rfl).trans ?_
    refine ite_congr rfl (fun c6_ => ?_) (fun c6_ => ?_)
    · refine (R_iconst zf130_27 zw_m1 rfl).trans ?_
      exact R_ireturn_i zf130_28 zr_130
    · refine (R_iload_n zf130_18 rfl rfl).trans ?_
      refine (R_if_lt (t := 27) zf130_19 rfl rfl).trans ?_
      refine ite_congr rfl (fun c7_ => ?_) (fun c7_ => ?_)
      · refine (R_iconst zf130_27 zw_m1 rfl).trans ?_
        exact R_ireturn_i zf130_28 zr_130
      · refine (R_iload_n zf130_22 rfl rfl).trans ?_
        refine (R_iconst zf130_23 zw_1 rfl).trans ?_
        refine (R_icmp_le (t := 29) zf130_24 rfl rfl).trans ?_
        refine ite_congr rfl (fun c8_ => ?_) (fun c8_ => ?_)
        · refine (R_aload_n zf130_29 rfl zlt_0 rfl).trans ?_
          refine (R_getR zf130_30 zo_130 zfl_11_67 zk1_0 zft_11_7 zmr_0_7 rfl).trans ?_
          refine (R_aload_n zf130_33 rfl zlt_0 rfl).trans ?_
          refine (R_getR zf130_34 zo_130 zfl_11_88 zk1_0 zft_11_10 zmr_0_10 rfl).trans ?_
          refine (R_aload_n zf130_37 rfl zlt_0 rfl).trans ?_
          refine (R_getR zf130_38 zo_130 zfl_11_88 zk1_0 zft_11_10 zmr_0_10 rfl).trans ?_
          refine (R_iload_n zf130_41 rfl rfl).trans ?_
          refine (R_aload_n zf130_42 rfl zlt_0 rfl).trans ?_
          refine (R_getR zf130_43 zo_130 zfl_11_19 zk1_0 zft_11_1 zmr_0_1 rfl).trans ?_
          refine (R_getI zf130_46 zo_130 zfl_11_119 zk1_2 zft_5_3 rfl).trans ?_
          refine (R_vcallI zf130_49 zo_130 zvl_11_353 (by rw [zr_131]; rfl) zl_131 (Nat.le_of_ble_eq_true rfl) rfl rfl (Nat.le_of_ble_eq_true rfl) (Nat.le_of_ble_eq_true rfl) (es := [.inr (.inr (.inl 12)), .inl x0, .inl (h4_ 2 3), vU, vU]) rfl rfl zk1_12 zo_131).trans ?_
          refine congrArg (cI _) (funext fun a10_ => funext fun h9_ => ?_)
          refine (R_iload_n zf130_52 rfl rfl).trans ?_
          refine (R_vcallI zf130_53 zo_130 zvl_11_356 (by rw [zr_132]; rfl) zl_132 (Nat.le_of_ble_eq_true rfl) rfl rfl (Nat.le_of_ble_eq_true rfl) (Nat.le_of_ble_eq_true rfl) (es := [.inr (.inr (.inl 9)), .inr (.inr (.inl 12)), .inl a10_, .inl x1, vU, vU]) rfl rfl zk1_9 zo_132).trans ?_
          refine congrArg (cI _) (funext fun a12_ => funext fun h11_ => ?_)
          refine (R_istore (ls' := [.inr (.inr (.inl 0)), .inl x0, .inl x1, .inl x2, .inl a12_]) zf130_56 (Nat.le_of_ble_eq_true rfl) rfl rfl).trans ?_
          refine (R_iload zf130_58 rfl rfl).trans ?_
          refine (R_iconst zf130_60 zw_m1 rfl).trans ?_
          refine (R_icmp_ne (t := 66) zf130_61 rfl rfl).trans ?_
          refine ite_congr rfl (fun c13_ => ?_) (fun c13_ => ?_)
          · refine (R_iload_n zf130_66 rfl rfl).trans ?_
            refine (R_iconst zf130_67 zw_1 rfl).trans ?_
            refine (R_icmp_ne (t := 79) zf130_68 rfl rfl).trans ?_
            refine ite_congr rfl (fun c14_ => ?_) (fun c14_ => ?_)
            · refine (R_iload zf130_79 rfl rfl).trans ?_
              refine (R_bipush zf130_81 zb_100 rfl).trans ?_
              refine (R_idiv zf130_83 (by decide) rfl).trans ?_
              exact R_ireturn_i zf130_84 zr_130
            · refine (R_iload zf130_71 rfl rfl).trans ?_
              refine (R_bipush zf130_73 zb_100 rfl).trans ?_
              refine (R_irem zf130_75 (by decide) rfl).trans ?_
              refine (R_goto (t := 84) zf130_76 rfl).trans ?_
              exact R_ireturn_i zf130_84 zr_130
          · refine (R_iconst zf130_64 zw_m1 rfl).trans ?_
            exact R_ireturn_i zf130_65 zr_130
        · refine (R_iconst zf130_27 zw_m1 rfl).trans ?_
          exact R_ireturn_i zf130_28 zr_130
-- CannonPost.sure(III)I at 0
theorem q135_0 (d : Nat) (x0 : Int) (x1 : Int) (x2 : Int) (h : MH) : Run (d + 1) 135 0 [.inr (.inr (.inl 0)), .inl x0, .inl x1, .inl x2] [] h = (cI (Run d 124 0 [.inr (.inr (.inl 0)), .inl x0, .inl x1, .inl x2] [] h) fun a2_ h1_ => (if a2_ = 0 then some (some (.inl (-1)), h1_) else (cI (Run d 136 0 [.inr (.inr (.inl 0)), .inl x0, .inl x1, .inl x2, vU, vU, vU] [] h1_) fun a5_ h4_ => some (some (.inl a5_), h4_)))) := by
  refine (R_aload_n zf135_0 rfl zlt_0 rfl).trans ?_
  refine (R_iload_n zf135_1 rfl rfl).trans ?_
  refine (R_iload_n zf135_2 rfl rfl).trans ?_
  refine (R_iload_n zf135_3 rfl rfl).trans ?_
  refine (R_vcallI zf135_4 zo_135 zvl_11_333 (by rw [zr_124]; rfl) zl_124 (Nat.le_of_ble_eq_true rfl) rfl rfl (Nat.le_of_ble_eq_true rfl) (Nat.le_of_ble_eq_true rfl) (es := [.inr (.inr (.inl 0)), .inl x0, .inl x1, .inl x2]) rfl rfl zk1_0 zo_124).trans ?_
  refine congrArg (cI _) (funext fun a2_ => funext fun h1_ => ?_)
  refine (R_if_eq (t := 20) zf135_7 rfl rfl).trans ?_
  refine ite_congr rfl (fun c3_ => ?_) (fun c3_ => ?_)
  · refine (R_iconst zf135_20 zw_m1 rfl).trans ?_
    exact R_ireturn_i zf135_21 zr_135
  · refine (R_aload_n zf135_10 rfl zlt_0 rfl).trans ?_
    refine (R_iload_n zf135_11 rfl rfl).trans ?_
    refine (R_iload_n zf135_12 rfl rfl).trans ?_
    refine (R_iload_n zf135_13 rfl rfl).trans ?_
    refine (R_vcallI zf135_14 zo_135 zvl_11_360 (by rw [zr_136]; rfl) zl_136 (Nat.le_of_ble_eq_true rfl) rfl rfl (Nat.le_of_ble_eq_true rfl) (Nat.le_of_ble_eq_true rfl) (es := [.inr (.inr (.inl 0)), .inl x0, .inl x1, .inl x2, vU, vU, vU]) rfl rfl zk1_0 zo_136).trans ?_
    refine congrArg (cI _) (funext fun a5_ => funext fun h4_ => ?_)
    refine (R_goto (t := 21) zf135_17 rfl).trans ?_
    exact R_ireturn_i zf135_21 zr_135
-- CannonPost.surest(II)I at 0
theorem q137_0 (d : Nat) (x0 : Int) (x1 : Int) (h : MH) : Run (d + 1) 137 0 [.inr (.inr (.inl 0)), .inl x0, .inl x1, vU, vU, vU, vU] [] h = (cI (Run d 20 0 [.inr (.inr (.inl 2)), .inl x0] [] h) fun a2_ h1_ => (if a2_ = 0 then some (some (.inl (-1)), h1_) else (cI (Run d 20 0 [.inr (.inr (.inl 2)), .inl x1] [] h1_) fun a5_ h4_ => (if ¬ a5_ = 0 then Run (d + 1) 137 32 [.inr (.inr (.inl 0)), .inl x0, .inl x1, .inl (-1), .inl (-1), .inl 0, vU] [] h4_ else some (some (.inl (-1)), h4_))))) := by
  refine (R_aload_n zf137_0 rfl zlt_0 rfl).trans ?_
  refine (R_getR zf137_1 zo_137 zfl_11_19 zk1_0 zft_11_1 zmr_0_1 rfl).trans ?_
  refine (R_iload_n zf137_4 rfl rfl).trans ?_
  refine (R_vcallI zf137_5 zo_137 zvl_11_168 (by rw [zr_20]; rfl) zl_20 (Nat.le_of_ble_eq_true rfl) rfl rfl (Nat.le_of_ble_eq_true rfl) (Nat.le_of_ble_eq_true rfl) (es := [.inr (.inr (.inl 2)), .inl x0]) rfl rfl zk1_2 zo_20).trans ?_
  refine congrArg (cI _) (funext fun a2_ => funext fun h1_ => ?_)
  refine (R_if_eq (t := 22) zf137_8 rfl rfl).trans ?_
  refine ite_congr rfl (fun c3_ => ?_) (fun c3_ => ?_)
  · refine (R_iconst zf137_22 zw_m1 rfl).trans ?_
    exact R_ireturn_i zf137_23 zr_137
  · refine (R_aload_n zf137_11 rfl zlt_0 rfl).trans ?_
    refine (R_getR zf137_12 zo_137 zfl_11_19 zk1_0 zft_11_1 zmr_0_1 rfl).trans ?_
    refine (R_iload_n zf137_15 rfl rfl).trans ?_
    refine (R_vcallI zf137_16 zo_137 zvl_11_168 (by rw [zr_20]; rfl) zl_20 (Nat.le_of_ble_eq_true rfl) rfl rfl (Nat.le_of_ble_eq_true rfl) (Nat.le_of_ble_eq_true rfl) (es := [.inr (.inr (.inl 2)), .inl x1]) rfl rfl zk1_2 zo_20).trans ?_
    refine congrArg (cI _) (funext fun a5_ => funext fun h4_ => ?_)
    refine (R_if_ne (t := 24) zf137_19 rfl rfl).trans ?_
    refine ite_congr rfl (fun c6_ => ?_) (fun c6_ => ?_)
    · refine (R_iconst zf137_24 zw_m1 rfl).trans ?_
      refine (R_istore_n (ls' := [.inr (.inr (.inl 0)), .inl x0, .inl x1, .inl (-1), vU, vU, vU]) zf137_25 (Nat.le_of_ble_eq_true rfl) rfl rfl).trans ?_
      refine (R_iconst zf137_26 zw_m1 rfl).trans ?_
      refine (R_istore (ls' := [.inr (.inr (.inl 0)), .inl x0, .inl x1, .inl (-1), .inl (-1), vU, vU]) zf137_27 (Nat.le_of_ble_eq_true rfl) rfl rfl).trans ?_
      refine (R_iconst zf137_29 zw_0 rfl).trans ?_
      refine (R_istore (ls' := [.inr (.inr (.inl 0)), .inl x0, .inl x1, .inl (-1), .inl (-1), .inl 0, vU]) zf137_30 (Nat.le_of_ble_eq_true rfl) rfl rfl).trans ?_
      rfl
    · refine (R_iconst zf137_22 zw_m1 rfl).trans ?_
      exact R_ireturn_i zf137_23 zr_137
-- CannonPost.cuts()I at 0
theorem q138_0 (d : Nat) (h : MH) : Run (d + 1) 138 0 [.inr (.inr (.inl 0)), vU, vU, vU] [] h = (cI (Run d 61 0 [.inr (.inr (.inl 2))] [] h) fun a2_ h1_ => (if ¬ a2_ = 0 then (cV (Run d 139 0 [.inr (.inr (.inl 9)), .inr (.inr (.inl 12)), vU, vU, vU] [] h1_) fun h4_ => (cI (Run d 140 0 [.inr (.inr (.inl 9)), .inl 0, .inl (-1), vU, vU, vU, vU] [] h4_) fun a6_ h5_ => Run (d + 1) 138 37 [.inr (.inr (.inl 0)), .inl a6_, .inl 0, .inl 1] [] h5_)) else some (some (.inl (-1)), h1_))) := by
  refine (R_aload_n zf138_0 rfl zlt_0 rfl).trans ?_
  refine (R_getR zf138_1 zo_138 zfl_11_19 zk1_0 zft_11_1 zmr_0_1 rfl).trans ?_
  refine (R_vcallI zf138_4 zo_138 zvl_11_159 (by rw [zr_61]; rfl) zl_61 (Nat.le_of_ble_eq_true rfl) rfl rfl (Nat.le_of_ble_eq_true rfl) (Nat.le_of_ble_eq_true rfl) (es := [.inr (.inr (.inl 2))]) rfl rfl zk1_2 zo_61).trans ?_
  refine congrArg (cI _) (funext fun a2_ => funext fun h1_ => ?_)
  refine (R_if_ne (t := 12) zf138_7 rfl rfl).trans ?_
  refine ite_congr rfl (fun c3_ => ?_) (fun c3_ => ?_)
  · refine (R_aload_n zf138_12 rfl zlt_0 rfl).trans ?_
    refine (R_getR zf138_13 zo_138 zfl_11_67 zk1_0 zft_11_7 zmr_0_7 rfl).trans ?_
    refine (R_aload_n zf138_16 rfl zlt_0 rfl).trans ?_
    refine (R_getR zf138_17 zo_138 zfl_11_88 zk1_0 zft_11_10 zmr_0_10 rfl).trans ?_
    refine (R_vcallV zf138_20 zo_138 zvl_11_367 zr_139 zl_139 (Nat.le_of_ble_eq_true rfl) rfl rfl (Nat.le_of_ble_eq_true rfl) (Nat.le_of_ble_eq_true rfl) (es := [.inr (.inr (.inl 9)), .inr (.inr (.inl 12)), vU, vU, vU]) rfl rfl zk1_9 zo_139).trans ?_
    refine congrArg (cV _) (funext fun h4_ => ?_)
    refine (R_aload_n zf138_23 rfl zlt_0 rfl).trans ?_
    refine (R_getR zf138_24 zo_138 zfl_11_67 zk1_0 zft_11_7 zmr_0_7 rfl).trans ?_
    refine (R_iconst zf138_27 zw_0 rfl).trans ?_
    refine (R_iconst zf138_28 zw_m1 rfl).trans ?_
    refine (R_vcallI zf138_29 zo_138 zvl_11_370 (by rw [zr_140]; rfl) zl_140 (Nat.le_of_ble_eq_true rfl) rfl rfl (Nat.le_of_ble_eq_true rfl) (Nat.le_of_ble_eq_true rfl) (es := [.inr (.inr (.inl 9)), .inl 0, .inl (-1), vU, vU, vU, vU]) rfl rfl zk1_9 zo_140).trans ?_
    refine congrArg (cI _) (funext fun a6_ => funext fun h5_ => ?_)
    refine (R_istore_n (ls' := [.inr (.inr (.inl 0)), .inl a6_, vU, vU]) zf138_32 (Nat.le_of_ble_eq_true rfl) rfl rfl).trans ?_
    refine (R_iconst zf138_33 zw_0 rfl).trans ?_
    refine (R_istore_n (ls' := [.inr (.inr (.inl 0)), .inl a6_, .inl 0, vU]) zf138_34 (Nat.le_of_ble_eq_true rfl) rfl rfl).trans ?_
    refine (R_iconst zf138_35 zw_1 rfl).trans ?_
    refine (R_istore_n (ls' := [.inr (.inr (.inl 0)), .inl a6_, .inl 0, .inl 1]) zf138_36 (Nat.le_of_ble_eq_true rfl) rfl rfl).trans ?_
    rfl
  · refine (R_iconst zf138_10 zw_m1 rfl).trans ?_
    exact R_ireturn_i zf138_11 zr_138
-- CannonPost.net(I)I at 0
theorem q141_0 (d : Nat) (x0 : Int) (h : MH) : Run (d + 1) 141 0 [.inr (.inr (.inl 0)), .inl x0] [] h = (cI (Run d 20 0 [.inr (.inr (.inl 2)), .inl x0] [] h) fun a2_ h1_ => (if ¬ a2_ = 0 then (cV (Run d 139 0 [.inr (.inr (.inl 9)), .inr (.inr (.inl 12)), vU, vU, vU] [] h1_) fun h4_ => (cI (Run d 140 0 [.inr (.inr (.inl 9)), .inl x0, .inl (-1), vU, vU, vU, vU] [] h4_) fun a6_ h5_ => some (some (.inl a6_), h5_))) else some (some (.inl (-1)), h1_))) := by
  refine (R_aload_n zf141_0 rfl zlt_0 rfl).trans ?_
  refine (R_getR zf141_1 zo_141 zfl_11_19 zk1_0 zft_11_1 zmr_0_1 rfl).trans ?_
  refine (R_iload_n zf141_4 rfl rfl).trans ?_
  refine (R_vcallI zf141_5 zo_141 zvl_11_168 (by rw [zr_20]; rfl) zl_20 (Nat.le_of_ble_eq_true rfl) rfl rfl (Nat.le_of_ble_eq_true rfl) (Nat.le_of_ble_eq_true rfl) (es := [.inr (.inr (.inl 2)), .inl x0]) rfl rfl zk1_2 zo_20).trans ?_
  refine congrArg (cI _) (funext fun a2_ => funext fun h1_ => ?_)
  refine (R_if_ne (t := 13) zf141_8 rfl rfl).trans ?_
  refine ite_congr rfl (fun c3_ => ?_) (fun c3_ => ?_)
  · refine (R_aload_n zf141_13 rfl zlt_0 rfl).trans ?_
    refine (R_getR zf141_14 zo_141 zfl_11_67 zk1_0 zft_11_7 zmr_0_7 rfl).trans ?_
    refine (R_aload_n zf141_17 rfl zlt_0 rfl).trans ?_
    refine (R_getR zf141_18 zo_141 zfl_11_88 zk1_0 zft_11_10 zmr_0_10 rfl).trans ?_
    refine (R_vcallV zf141_21 zo_141 zvl_11_367 zr_139 zl_139 (Nat.le_of_ble_eq_true rfl) rfl rfl (Nat.le_of_ble_eq_true rfl) (Nat.le_of_ble_eq_true rfl) (es := [.inr (.inr (.inl 9)), .inr (.inr (.inl 12)), vU, vU, vU]) rfl rfl zk1_9 zo_139).trans ?_
    refine congrArg (cV _) (funext fun h4_ => ?_)
    refine (R_aload_n zf141_24 rfl zlt_0 rfl).trans ?_
    refine (R_getR zf141_25 zo_141 zfl_11_67 zk1_0 zft_11_7 zmr_0_7 rfl).trans ?_
    refine (R_iload_n zf141_28 rfl rfl).trans ?_
    refine (R_iconst zf141_29 zw_m1 rfl).trans ?_
    refine (R_vcallI zf141_30 zo_141 zvl_11_370 (by rw [zr_140]; rfl) zl_140 (Nat.le_of_ble_eq_true rfl) rfl rfl (Nat.le_of_ble_eq_true rfl) (Nat.le_of_ble_eq_true rfl) (es := [.inr (.inr (.inl 9)), .inl x0, .inl (-1), vU, vU, vU, vU]) rfl rfl zk1_9 zo_140).trans ?_
    refine congrArg (cI _) (funext fun a6_ => funext fun h5_ => ?_)
    exact R_ireturn_i zf141_33 zr_141
  · refine (R_iconst zf141_11 zw_m1 rfl).trans ?_
    exact R_ireturn_i zf141_12 zr_141
-- CannonPost.gusts(IIIII)I at 0
theorem q142_0 (d : Nat) (x0 : Int) (x1 : Int) (x2 : Int) (x3 : Int) (x4 : Int) (h : MH) : Run (d + 1) 142 0 [.inr (.inr (.inl 0)), .inl x0, .inl x1, .inl x2, .inl x3, .inl x4, vU, vU] [] h = (cI (Run d 122 0 [.inr (.inr (.inl 0)), .inl x0, .inl x1, .inl x2, .inl x3] [] h) fun a2_ h1_ => (if a2_ = 0 then some (some (.inl (-1)), h1_) else (if x4 < 0 then some (some (.inl (-1)), h1_) else (if x4 ≤ 100 then (cI (Run d 143 0 [.inr (.inr (.inl 0)), .inl 0, .inl x0, .inl x1, .inl x2, .inl x3, vU, vU] [] h1_) fun a7_ h6_ => (if a7_ = 0 then Run (d + 1) 142 48 [.inr (.inr (.inl 0)), .inl x0, .inl x1, .inl x2, .inl x3, .inl x4, vU, vU] [.inl 0] h6_ else Run (d + 1) 142 48 [.inr (.inr (.inl 0)), .inl x0, .inl x1, .inl x2, .inl x3, .inl x4, vU, vU] [.inl (wI (100 - x4))] h6_)) else some (some (.inl (-1)), h1_))))) := by
  refine (R_aload_n zf142_0 rfl zlt_0 rfl).trans ?_
  refine (R_iload_n zf142_1 rfl rfl).trans ?_
  refine (R_iload_n zf142_2 rfl rfl).trans ?_
  refine (R_iload_n zf142_3 rfl rfl).trans ?_
  refine (R_iload zf142_4 rfl rfl).trans ?_
  refine (R_vcallI zf142_6 zo_142 zvl_11_329 (by rw [zr_122]; rfl) zl_122 (Nat.le_of_ble_eq_true rfl) rfl rfl (Nat.le_of_ble_eq_true rfl) (Nat.le_of_ble_eq_true rfl) (es := [.inr (.inr (.inl 0)), .inl x0, .inl x1, .inl x2, .inl x3]) rfl rfl zk1_0 zo_122).trans ?_
  refine congrArg (cI _) (funext fun a2_ => funext fun h1_ => ?_)
  refine (R_if_eq (t := 24) zf142_9 rfl rfl).trans ?_
  refine ite_congr rfl (fun c3_ => ?_) (fun c3_ => ?_)
  · refine (R_iconst zf142_24 zw_m1 rfl).trans ?_
    exact R_ireturn_i zf142_25 zr_142
  · refine (R_iload zf142_12 rfl rfl).trans ?_
    refine (R_if_lt (t := 24) zf142_14 rfl rfl).trans ?_
    refine ite_congr rfl (fun c4_ => ?_) (fun c4_ => ?_)
    · refine (R_iconst zf142_24 zw_m1 rfl).trans ?_
      exact R_ireturn_i zf142_25 zr_142
    · refine (R_iload zf142_17 rfl rfl).trans ?_
      refine (R_bipush zf142_19 zb_100 rfl).trans ?_
      refine (R_icmp_le (t := 26) zf142_21 rfl rfl).trans ?_
      refine ite_congr rfl (fun c5_ => ?_) (fun c5_ => ?_)
      · refine (R_aload_n zf142_26 rfl zlt_0 rfl).trans ?_
        refine (R_iconst zf142_27 zw_0 rfl).trans ?_
        refine (R_iload_n zf142_28 rfl rfl).trans ?_
        refine (R_iload_n zf142_29 rfl rfl).trans ?_
        refine (R_iload_n zf142_30 rfl rfl).trans ?_
        refine (R_iload zf142_31 rfl rfl).trans ?_
        refine (R_vcallI zf142_33 zo_142 zvl_11_373 (by rw [zr_143]; rfl) zl_143 (Nat.le_of_ble_eq_true rfl) rfl rfl (Nat.le_of_ble_eq_true rfl) (Nat.le_of_ble_eq_true rfl) (es := [.inr (.inr (.inl 0)), .inl 0, .inl x0, .inl x1, .inl x2, .inl x3, vU, vU]) rfl rfl zk1_0 zo_143).trans ?_
        refine congrArg (cI _) (funext fun a7_ => funext fun h6_ => ?_)
        refine (R_if_eq (t := 47) zf142_36 rfl rfl).trans ?_
        refine ite_congr rfl (fun c8_ => ?_) (fun c8_ => ?_)
        · refine (R_iconst zf142_47 zw_0 rfl).trans ?_
          rfl
        · refine (R_bipush zf142_39 zb_100 rfl).trans ?_
          refine (R_iload zf142_41 rfl rfl).trans ?_
          refine (R_isub zf142_43 rfl).trans ?_
          refine (R_goto (t := 48) zf142_44 rfl).trans ?_
          rfl
      · refine (R_iconst zf142_24 zw_m1 rfl).trans ?_
        exact R_ireturn_i zf142_25 zr_142
-- CannonPost.passing(II)I at 0
theorem q144_0 (d : Nat) (x0 : Int) (x1 : Int) (h : MH) : Run (d + 1) 144 0 [.inr (.inr (.inl 0)), .inl x0, .inl x1, vU, vU, vU, vU, vU, vU] [] h = (cI (Run d 145 0 [.inr (.inr (.inl 0)), .inl x0, .inl x1] [] h) fun a2_ h1_ => (if a2_ = 0 then some (some (.inl (-1)), h1_) else (if 0 ≤ (wI (16 + x0)) ∧ (wI (16 + x0)) < 37 then (if ¬ (h1_ 91 (wI (16 + x0)).toNat) = 0 then some (some (.inl (-1)), h1_) else (if 0 ≤ (wI (16 + x1)) ∧ (wI (16 + x1)) < 37 then (if (h1_ 91 (wI (16 + x1)).toNat) = 0 then (if 0 ≤ (wI (6 + x0)) ∧ (wI (6 + x0)) < 37 then (if 0 ≤ (wI (6 + x1)) ∧ (wI (6 + x1)) < 37 then (cI (Run d 125 0 [.inr (.inr (.inl 8)), .inr (.inr (.inl 12)), .inl x0, .inl (h1_ 91 (wI (6 + x0)).toNat), .inl (h1_ 91 (wI (6 + x1)).toNat), vU, vU] [] h1_) fun a11_ h10_ => (cI (Run d 125 0 [.inr (.inr (.inl 8)), .inr (.inr (.inl 12)), .inl x1, .inl (h1_ 91 (wI (6 + x1)).toNat), .inl (h1_ 91 (wI (6 + x0)).toNat), vU, vU] [] h10_) fun a13_ h12_ => (if a11_ = (-1) then some (some (.inl (-1)), h12_) else (if ¬ a13_ = (-1) then (cI (Run d 82 0 [.inr (.inr (.inl 2)), .inl x0] [] h12_) fun a17_ h16_ => (cI (Run d 82 0 [.inr (.inr (.inl 2)), .inl x1] [] h16_) fun a19_ h18_ => (if ¬ (wI (a17_ + a11_)) = (wI (a19_ + a13_)) then (if (wI (a17_ + a11_)) ≤ (wI (a19_ + a13_)) then some (some (.inl 2), h18_) else some (some (.inl 1), h18_)) else some (some (.inl 0), h18_)))) else some (some (.inl (-1)), h12_))))) else none) else none) else some (some (.inl (-1)), h1_)) else none)) else none))) := by
  refine (R_aload_n zf144_0 rfl zlt_0 rfl).trans ?_
  refine (R_iload_n zf144_1 rfl rfl).trans ?_
  refine (R_iload_n zf144_2 rfl rfl).trans ?_
  refine (R_vcallI zf144_3 zo_144 zvl_11_387 (by rw [zr_145]; rfl) zl_145 (Nat.le_of_ble_eq_true rfl) rfl rfl (Nat.le_of_ble_eq_true rfl) (Nat.le_of_ble_eq_true rfl) (es := [.inr (.inr (.inl 0)), .inl x0, .inl x1]) rfl rfl zk1_0 zo_145).trans ?_
  refine congrArg (cI _) (funext fun a2_ => funext fun h1_ => ?_)
  refine (R_if_eq (t := 39) zf144_6 rfl rfl).trans ?_
  refine ite_congr rfl (fun c3_ => ?_) (fun c3_ => ?_)
  · refine (R_iconst zf144_39 zw_m1 rfl).trans ?_
    exact R_ireturn_i zf144_40 zr_144
  · refine (R_aload_n zf144_9 rfl zlt_0 rfl).trans ?_
    refine (R_getR zf144_10 zo_144 zfl_11_88 zk1_0 zft_11_10 zmr_0_10 rfl).trans ?_
    refine (R_getR zf144_13 zo_144 zfl_11_162 zk1_12 zft_9_0 zmr_12_0 rfl).trans ?_
    refine (R_bipush zf144_16 zb_16 rfl).trans ?_
    refine (R_iload_n zf144_18 rfl rfl).trans ?_
    refine (R_iadd zf144_19 rfl).trans ?_
    refine (R_iald zf144_20 zk_91 rfl).trans ?_
    refine ite_congr rfl (fun c4_ => ?_) (fun _ => rfl)
    refine (R_if_ne (t := 39) zf144_21 rfl rfl).trans ?_
    refine ite_congr rfl (fun c5_ => ?_) (fun c5_ => ?_)
    · refine (R_iconst zf144_39 zw_m1 rfl).trans ?_
      exact R_ireturn_i zf144_40 zr_144
    · refine (R_aload_n zf144_24 rfl zlt_0 rfl).trans ?_
      refine (R_getR zf144_25 zo_144 zfl_11_88 zk1_0 zft_11_10 zmr_0_10 rfl).trans ?_
      refine (R_getR zf144_28 zo_144 zfl_11_162 zk1_12 zft_9_0 zmr_12_0 rfl).trans ?_
      refine (R_bipush zf144_31 zb_16 rfl).trans ?_
      refine (R_iload_n zf144_33 rfl rfl).trans ?_
      refine (R_iadd zf144_34 rfl).trans ?_
      refine (R_iald zf144_35 zk_91 rfl).trans ?_
      refine ite_congr rfl (fun c6_ => ?_) (fun _ => rfl)
      refine (R_if_eq (t := 41) zf144_36 rfl rfl).trans ?_
      refine ite_congr rfl (fun c7_ => ?_) (fun c7_ => ?_)
      · refine (R_aload_n zf144_41 rfl zlt_0 rfl).trans ?_
        refine (R_getR zf144_42 zo_144 zfl_11_88 zk1_0 zft_11_10 zmr_0_10 rfl).trans ?_
        refine (R_getR zf144_45 zo_144 zfl_11_162 zk1_12 zft_9_0 zmr_12_0 rfl).trans ?_
        refine (R_bipush zf144_48 zb_6 rfl).trans ?_
        refine (R_iload_n zf144_50 rfl rfl).trans ?_
        refine (R_iadd zf144_51 rfl).trans ?_
        refine (R_iald zf144_52 zk_91 rfl).trans ?_
        refine ite_congr rfl (fun c8_ => ?_) (fun _ => rfl)
        refine (R_istore_n (ls' := [.inr (.inr (.inl 0)), .inl x0, .inl x1, .inl (h1_ 91 (wI (6 + x0)).toNat), vU, vU, vU, vU, vU]) zf144_53 (Nat.le_of_ble_eq_true rfl) rfl rfl).trans ?_
        refine (R_aload_n zf144_54 rfl zlt_0 rfl).trans ?_
        refine (R_getR zf144_55 zo_144 zfl_11_88 zk1_0 zft_11_10 zmr_0_10 rfl).trans ?_
        refine (R_getR zf144_58 zo_144 zfl_11_162 zk1_12 zft_9_0 zmr_12_0 rfl).trans ?_
        refine (R_bipush zf144_61 zb_6 rfl).trans ?_
        refine (R_iload_n zf144_63 rfl rfl).trans ?_
        refine (R_iadd zf144_64 rfl).trans ?_
        refine (R_iald zf144_65 zk_91 rfl).trans ?_
        refine ite_congr rfl (fun c9_ => ?_) (fun _ => rfl)
        refine (R_istore (ls' := [.inr (.inr (.inl 0)), .inl x0, .inl x1, .inl (h1_ 91 (wI (6 + x0)).toNat), .inl (h1_ 91 (wI (6 + x1)).toNat), vU, vU, vU, vU]) zf144_66 (Nat.le_of_ble_eq_true rfl) rfl rfl).trans ?_
        refine (R_aload_n zf144_68 rfl zlt_0 rfl).trans ?_
        refine (R_getR zf144_69 zo_144 zfl_11_58 zk1_0 zft_11_6 zmr_0_6 rfl).trans ?_
        refine (R_aload_n zf144_72 rfl zlt_0 rfl).trans ?_
        refine (R_getR zf144_73 zo_144 zfl_11_88 zk1_0 zft_11_10 zmr_0_10 rfl).trans ?_
        refine (R_iload_n zf144_76 rfl rfl).trans ?_
        refine (R_iload_n zf144_77 rfl rfl).trans ?_
        refine (R_iload zf144_78 rfl rfl).trans ?_
        refine (R_vcallI zf144_80 zo_144 zvl_11_337 (by rw [zr_125]; rfl) zl_125 (Nat.le_of_ble_eq_true rfl) rfl rfl (Nat.le_of_ble_eq_true rfl) (Nat.le_of_ble_eq_true rfl) (es := [.inr (.inr (.inl 8)), .inr (.inr (.inl 12)), .inl x0, .inl (h1_ 91 (wI (6 + x0)).toNat), .inl (h1_ 91 (wI (6 + x1)).toNat), vU, vU]) rfl rfl zk1_8 zo_125).trans ?_
        refine congrArg (cI _) (funext fun a11_ => funext fun h10_ => ?_)
        refine (R_istore (ls' := [.inr (.inr (.inl 0)), .inl x0, .inl x1, .inl (h1_ 91 (wI (6 + x0)).toNat), .inl (h1_ 91 (wI (6 + x1)).toNat), .inl a11_, vU, vU, vU]) zf144_83 (Nat.le_of_ble_eq_true rfl) rfl rfl).trans ?_
        refine (R_aload_n zf144_85 rfl zlt_0 rfl).trans ?_
        refine (R_getR zf144_86 zo_144 zfl_11_58 zk1_0 zft_11_6 zmr_0_6 rfl).trans ?_
        refine (R_aload_n zf144_89 rfl zlt_0 rfl).trans ?_
        refine (R_getR zf144_90 zo_144 zfl_11_88 zk1_0 zft_11_10 zmr_0_10 rfl).trans ?_
        refine (R_iload_n zf144_93 rfl rfl).trans ?_
        refine (R_iload zf144_94 rfl rfl).trans ?_
        refine (R_iload_n zf144_96 rfl rfl).trans ?_
        refine (R_vcallI zf144_97 zo_144 zvl_11_337 (by rw [zr_125]; rfl) zl_125 (Nat.le_of_ble_eq_true rfl) rfl rfl (Nat.le_of_ble_eq_true rfl) (Nat.le_of_ble_eq_true rfl) (es := [.inr (.inr (.inl 8)), .inr (.inr (.inl 12)), .inl x1, .inl (h1_ 91 (wI (6 + x1)).toNat), .inl (h1_ 91 (wI (6 + x0)).toNat), vU, vU]) rfl rfl zk1_8 zo_125).trans ?_
        refine congrArg (cI _) (funext fun a13_ => funext fun h12_ => ?_)
        refine (R_istore (ls' := [.inr (.inr (.inl 0)), .inl x0, .inl x1, .inl (h1_ 91 (wI (6 + x0)).toNat), .inl (h1_ 91 (wI (6 + x1)).toNat), .inl a11_, .inl a13_, vU, vU]) zf144_100 (Nat.le_of_ble_eq_true rfl) rfl rfl).trans ?_
        refine (R_iload zf144_102 rfl rfl).trans ?_
        refine (R_iconst zf144_104 zw_m1 rfl).trans ?_
        refine (R_icmp_eq (t := 114) zf144_105 rfl rfl).trans ?_
        refine ite_congr rfl (fun c14_ => ?_) (fun c14_ => ?_)
        · refine (R_iconst zf144_114 zw_m1 rfl).trans ?_
          exact R_ireturn_i zf144_115 zr_144
        · refine (R_iload zf144_108 rfl rfl).trans ?_
          refine (R_iconst zf144_110 zw_m1 rfl).trans ?_
          refine (R_icmp_ne (t := 116) zf144_111 rfl rfl).trans ?_
          refine ite_congr rfl (fun c15_ => ?_) (fun c15_ => ?_)
          · refine (R_aload_n zf144_116 rfl zlt_0 rfl).trans ?_
            refine (R_getR zf144_117 zo_144 zfl_11_19 zk1_0 zft_11_1 zmr_0_1 rfl).trans ?_
            refine (R_iload_n zf144_120 rfl rfl).trans ?_
            refine (R_vcallI zf144_121 zo_144 zvl_11_188 (by rw [zr_82]; rfl) zl_82 (Nat.le_of_ble_eq_true rfl) rfl rfl (Nat.le_of_ble_eq_true rfl) (Nat.le_of_ble_eq_true rfl) (es := [.inr (.inr (.inl 2)), .inl x0]) rfl rfl zk1_2 zo_82).trans ?_
            refine congrArg (cI _) (funext fun a17_ => funext fun h16_ => ?_)
            refine (R_iload zf144_124 rfl rfl).trans ?_
            refine (R_iadd zf144_126 rfl).trans ?_
            refine (R_istore (ls' := [.inr (.inr (.inl 0)), .inl x0, .inl x1, .inl (h1_ 91 (wI (6 + x0)).toNat), .inl (h1_ 91 (wI (6 + x1)).toNat), .inl a11_, .inl a13_, .inl (wI (a17_ + a11_)), vU]) zf144_127 (Nat.le_of_ble_eq_true rfl) rfl rfl).trans ?_
            refine (R_aload_n zf144_129 rfl zlt_0 rfl).trans ?_
            refine (R_getR zf144_130 zo_144 zfl_11_19 zk1_0 zft_11_1 zmr_0_1 rfl).trans ?_
            refine (R_iload_n zf144_133 rfl rfl).trans ?_
            refine (R_vcallI zf144_134 zo_144 zvl_11_188 (by rw [zr_82]; rfl) zl_82 (Nat.le_of_ble_eq_true rfl) rfl rfl (Nat.le_of_ble_eq_true rfl) (Nat.le_of_ble_eq_true rfl) (es := [.inr (.inr (.inl 2)), .inl x1]) rfl rfl zk1_2 zo_82).trans ?_
            refine congrArg (cI _) (funext fun a19_ => funext fun h18_ => ?_)
            refine (R_iload zf144_137 rfl rfl).trans ?_
            refine (R_iadd zf144_139 rfl).trans ?_
            refine (R_istore (ls' := [.inr (.inr (.inl 0)), .inl x0, .inl x1, .inl (h1_ 91 (wI (6 + x0)).toNat), .inl (h1_ 91 (wI (6 + x1)).toNat), .inl a11_, .inl a13_, .inl (wI (a17_ + a11_)), .inl (wI (a19_ + a13_))]) zf144_140 (Nat.le_of_ble_eq_true rfl) rfl rfl).trans ?_
            refine (R_iload zf144_142 rfl rfl).trans ?_
            refine (R_iload zf144_144 rfl rfl).trans ?_
            refine (R_icmp_ne (t := 151) zf144_146 rfl rfl).trans ?_
            refine ite_congr rfl (fun c20_ => ?_) (fun c20_ => ?_)
            · refine (R_iload zf144_151 rfl rfl).trans ?_
              refine (R_iload zf144_153 rfl rfl).trans ?_
              refine (R_icmp_le (t := 162) zf144_155 rfl rfl).trans ?_
              refine ite_congr rfl (fun c21_ => ?_) (fun c21_ => ?_)
              · refine (R_iconst zf144_162 zw_2 rfl).trans ?_
                exact R_ireturn_i zf144_163 zr_144
              · refine (R_iconst zf144_158 zw_1 rfl).trans ?_
                refine (R_goto (t := 163) zf144_159 rfl).trans ?_
                exact R_ireturn_i zf144_163 zr_144
            · refine (R_iconst zf144_149 zw_0 rfl).trans ?_
              exact R_ireturn_i zf144_150 zr_144
          · refine (R_iconst zf144_114 zw_m1 rfl).trans ?_
            exact R_ireturn_i zf144_115 zr_144
      · refine (R_iconst zf144_39 zw_m1 rfl).trans ?_
        exact R_ireturn_i zf144_40 zr_144
-- CannonPost.seen(IIIII)I at 0
theorem q146_0 (d : Nat) (x0 : Int) (x1 : Int) (x2 : Int) (x3 : Int) (x4 : Int) (h : MH) : Run (d + 1) 146 0 [.inr (.inr (.inl 0)), .inl x0, .inl x1, .inl x2, .inl x3, .inl x4] [] h = (cI (Run d 122 0 [.inr (.inr (.inl 0)), .inl x0, .inl x1, .inl x2, .inl x3] [] h) fun a2_ h1_ => (if a2_ = 0 then some (some (.inl (-1)), h1_) else (if x4 < (-60) then some (some (.inl (-1)), h1_) else (if 100 < x4 then some (some (.inl (-1)), h1_) else (cI (Run d 147 0 [.inr (.inr (.inl 10))] [] h1_) fun a7_ h6_ => (if ¬ a7_ = 0 then (cV (Run d 148 0 [.inr (.inr (.inl 10)), .inl x0, .inl x1, .inl x2, .inl x3, .inl x4, vU] [] h6_) fun h9_ => some (some (.inl (h9_ 10 2)), h9_)) else some (some (.inl (-1)), h6_))))))) := by
  refine (R_aload_n zf146_0 rfl zlt_0 rfl).trans ?_
  refine (R_iload_n zf146_1 rfl rfl).trans ?_
  refine (R_iload_n zf146_2 rfl rfl).trans ?_
  refine (R_iload_n zf146_3 rfl rfl).trans ?_
  refine (R_iload zf146_4 rfl rfl).trans ?_
  refine (R_vcallI zf146_6 zo_146 zvl_11_329 (by rw [zr_122]; rfl) zl_122 (Nat.le_of_ble_eq_true rfl) rfl rfl (Nat.le_of_ble_eq_true rfl) (Nat.le_of_ble_eq_true rfl) (es := [.inr (.inr (.inl 0)), .inl x0, .inl x1, .inl x2, .inl x3]) rfl rfl zk1_0 zo_122).trans ?_
  refine congrArg (cI _) (funext fun a2_ => funext fun h1_ => ?_)
  refine (R_if_eq (t := 36) zf146_9 rfl rfl).trans ?_
  refine ite_congr rfl (fun c3_ => ?_) (fun c3_ => ?_)
  · refine (R_iconst zf146_36 zw_m1 rfl).trans ?_
    exact R_ireturn_i zf146_37 zr_146
  · refine (R_iload zf146_12 rfl rfl).trans ?_
    refine (R_bipush zf146_14 zb_m60 rfl).trans ?_
    refine (R_icmp_lt (t := 36) zf146_16 rfl rfl).trans ?_
    refine ite_congr rfl (fun c4_ => ?_) (fun c4_ => ?_)
    · refine (R_iconst zf146_36 zw_m1 rfl).trans ?_
      exact R_ireturn_i zf146_37 zr_146
    · refine (R_iload zf146_19 rfl rfl).trans ?_
      refine (R_bipush zf146_21 zb_100 rfl).trans ?_
      refine (R_icmp_gt (t := 36) zf146_23 rfl rfl).trans ?_
      refine ite_congr rfl (fun c5_ => ?_) (fun c5_ => ?_)
      · refine (R_iconst zf146_36 zw_m1 rfl).trans ?_
        exact R_ireturn_i zf146_37 zr_146
      · refine (R_aload_n zf146_26 rfl zlt_0 rfl).trans ?_
        refine (R_getR zf146_27 zo_146 zfl_11_74 zk1_0 zft_11_8 zmr_0_8 rfl).trans ?_
        refine (R_vcallI zf146_30 zo_146 zvl_11_390 (by rw [zr_147]; rfl) zl_147 (Nat.le_of_ble_eq_true rfl) rfl rfl (Nat.le_of_ble_eq_true rfl) (Nat.le_of_ble_eq_true rfl) (es := [.inr (.inr (.inl 10))]) rfl rfl zk1_10 zo_147).trans ?_
        refine congrArg (cI _) (funext fun a7_ => funext fun h6_ => ?_)
        refine (R_if_ne (t := 38) zf146_33 rfl rfl).trans ?_
        refine ite_congr rfl (fun c8_ => ?_) (fun c8_ => ?_)
        · refine (R_aload_n zf146_38 rfl zlt_0 rfl).trans ?_
          refine (R_getR zf146_39 zo_146 zfl_11_74 zk1_0 zft_11_8 zmr_0_8 rfl).trans ?_
          refine (R_iload_n zf146_42 rfl rfl).trans ?_
          refine (R_iload_n zf146_43 rfl rfl).trans ?_
          refine (R_iload_n zf146_44 rfl rfl).trans ?_
          refine (R_iload zf146_45 rfl rfl).trans ?_
          refine (R_iload zf146_47 rfl rfl).trans ?_
          refine (R_vcallV zf146_49 zo_146 zvl_11_393 zr_148 zl_148 (Nat.le_of_ble_eq_true rfl) rfl rfl (Nat.le_of_ble_eq_true rfl) (Nat.le_of_ble_eq_true rfl) (es := [.inr (.inr (.inl 10)), .inl x0, .inl x1, .inl x2, .inl x3, .inl x4, vU]) rfl rfl zk1_10 zo_148).trans ?_
          refine congrArg (cV _) (funext fun h9_ => ?_)
          refine (R_aload_n zf146_52 rfl zlt_0 rfl).trans ?_
          refine (R_getR zf146_53 zo_146 zfl_11_74 zk1_0 zft_11_8 zmr_0_8 rfl).trans ?_
          refine (R_getI zf146_56 zo_146 zfl_11_213 zk1_10 zft_1_2 rfl).trans ?_
          exact R_ireturn_i zf146_59 zr_146
        · refine (R_iconst zf146_36 zw_m1 rfl).trans ?_
          exact R_ireturn_i zf146_37 zr_146
-- CannonPost.winds(I)I at 0
theorem q149_0 (d : Nat) (x0 : Int) (h : MH) : Run (d + 1) 149 0 [.inr (.inr (.inl 0)), .inl x0] [] h = (cI (Run d 61 0 [.inr (.inr (.inl 2))] [] h) fun a2_ h1_ => (if ¬ a2_ = 0 then (cV (Run d 150 0 [.inr (.inr (.inl 10)), vU] [] h1_) fun h4_ => (if ¬ x0 = (-1) then (if x0 < 0 then some (some (.inl (-1)), h4_) else (if (h4_ 10 1) ≤ x0 then some (some (.inl (-1)), h4_) else (if 0 ≤ x0 ∧ x0 < 20 then some (some (.inl (h4_ 45 x0.toNat)), h4_) else none))) else some (some (.inl (h4_ 10 1)), h4_))) else some (some (.inl (-1)), h1_))) := by
  refine (R_aload_n zf149_0 rfl zlt_0 rfl).trans ?_
  refine (R_getR zf149_1 zo_149 zfl_11_19 zk1_0 zft_11_1 zmr_0_1 rfl).trans ?_
  refine (R_vcallI zf149_4 zo_149 zvl_11_159 (by rw [zr_61]; rfl) zl_61 (Nat.le_of_ble_eq_true rfl) rfl rfl (Nat.le_of_ble_eq_true rfl) (Nat.le_of_ble_eq_true rfl) (es := [.inr (.inr (.inl 2))]) rfl rfl zk1_2 zo_61).trans ?_
  refine congrArg (cI _) (funext fun a2_ => funext fun h1_ => ?_)
  refine (R_if_ne (t := 12) zf149_7 rfl rfl).trans ?_
  refine ite_congr rfl (fun c3_ => ?_) (fun c3_ => ?_)
  · refine (R_aload_n zf149_12 rfl zlt_0 rfl).trans ?_
    refine (R_getR zf149_13 zo_149 zfl_11_74 zk1_0 zft_11_8 zmr_0_8 rfl).trans ?_
    refine (R_vcallV zf149_16 zo_149 zvl_11_397 zr_150 zl_150 (Nat.le_of_ble_eq_true rfl) rfl rfl (Nat.le_of_ble_eq_true rfl) (Nat.le_of_ble_eq_true rfl) (es := [.inr (.inr (.inl 10)), vU]) rfl rfl zk1_10 zo_150).trans ?_
    refine congrArg (cV _) (funext fun h4_ => ?_)
    refine (R_iload_n zf149_19 rfl rfl).trans ?_
    refine (R_iconst zf149_20 zw_m1 rfl).trans ?_
    refine (R_icmp_ne (t := 32) zf149_21 rfl rfl).trans ?_
    refine ite_congr rfl (fun c5_ => ?_) (fun c5_ => ?_)
    · refine (R_iload_n zf149_32 rfl rfl).trans ?_
      refine (R_if_lt (t := 59) zf149_33 rfl rfl).trans ?_
      refine ite_congr rfl (fun c6_ => ?_) (fun c6_ => ?_)
      · refine (R_iconst zf149_59 zw_m1 rfl).trans ?_
        exact R_ireturn_i zf149_60 zr_149
      · refine (R_iload_n zf149_36 rfl rfl).trans ?_
        refine (R_aload_n zf149_37 rfl zlt_0 rfl).trans ?_
        refine (R_getR zf149_38 zo_149 zfl_11_74 zk1_0 zft_11_8 zmr_0_8 rfl).trans ?_
        refine (R_getI zf149_41 zo_149 zfl_11_400 zk1_10 zft_1_1 rfl).trans ?_
        refine (R_icmp_ge (t := 59) zf149_44 rfl rfl).trans ?_
        refine ite_congr rfl (fun c7_ => ?_) (fun c7_ => ?_)
        · refine (R_iconst zf149_59 zw_m1 rfl).trans ?_
          exact R_ireturn_i zf149_60 zr_149
        · refine (R_aload_n zf149_47 rfl zlt_0 rfl).trans ?_
          refine (R_getR zf149_48 zo_149 zfl_11_74 zk1_0 zft_11_8 zmr_0_8 rfl).trans ?_
          refine (R_getR zf149_51 zo_149 zfl_11_403 zk1_10 zft_1_0 zmr_10_0 rfl).trans ?_
          refine (R_iload_n zf149_54 rfl rfl).trans ?_
          refine (R_iald zf149_55 zk_45 rfl).trans ?_
          refine ite_congr rfl (fun c8_ => ?_) (fun _ => rfl)
          refine (R_goto (t := 60) zf149_56 rfl).trans ?_
          exact R_ireturn_i zf149_60 zr_149
    · refine (R_aload_n zf149_24 rfl zlt_0 rfl).trans ?_
      refine (R_getR zf149_25 zo_149 zfl_11_74 zk1_0 zft_11_8 zmr_0_8 rfl).trans ?_
      refine (R_getI zf149_28 zo_149 zfl_11_400 zk1_10 zft_1_1 rfl).trans ?_
      exact R_ireturn_i zf149_31 zr_149
  · refine (R_iconst zf149_10 zw_m1 rfl).trans ?_
    exact R_ireturn_i zf149_11 zr_149
-- CannonPost.ask(II)I at 0
theorem q153_0 (d : Nat) (x0 : Int) (x1 : Int) (h : MH) : Run (d + 1) 153 0 [.inr (.inr (.inl 0)), .inl x0, .inl x1] [] h = (cI (Run d 72 0 [.inr (.inr (.inl 2)), .inl x0] [] h) fun a2_ h1_ => (if a2_ = 0 then some (some (.inl (-1)), h1_) else (cI (Run d 20 0 [.inr (.inr (.inl 2)), .inl x1] [] h1_) fun a5_ h4_ => (if ¬ a5_ = 0 then (cV (Run d 150 0 [.inr (.inr (.inl 10)), vU] [] h4_) fun h7_ => (cI (Run d 154 0 [.inr (.inr (.inl 10)), .inl x0, .inl x1, vU, vU, vU, vU, vU] [] h7_) fun a9_ h8_ => some (some (.inl a9_), h8_))) else some (some (.inl (-1)), h4_))))) := by
  refine (R_aload_n zf153_0 rfl zlt_0 rfl).trans ?_
  refine (R_getR zf153_1 zo_153 zfl_11_19 zk1_0 zft_11_1 zmr_0_1 rfl).trans ?_
  refine (R_iload_n zf153_4 rfl rfl).trans ?_
  refine (R_vcallI zf153_5 zo_153 zvl_11_178 (by rw [zr_72]; rfl) zl_72 (Nat.le_of_ble_eq_true rfl) rfl rfl (Nat.le_of_ble_eq_true rfl) (Nat.le_of_ble_eq_true rfl) (es := [.inr (.inr (.inl 2)), .inl x0]) rfl rfl zk1_2 zo_72).trans ?_
  refine congrArg (cI _) (funext fun a2_ => funext fun h1_ => ?_)
  refine (R_if_eq (t := 22) zf153_8 rfl rfl).trans ?_
  refine ite_congr rfl (fun c3_ => ?_) (fun c3_ => ?_)
  · refine (R_iconst zf153_22 zw_m1 rfl).trans ?_
    exact R_ireturn_i zf153_23 zr_153
  · refine (R_aload_n zf153_11 rfl zlt_0 rfl).trans ?_
    refine (R_getR zf153_12 zo_153 zfl_11_19 zk1_0 zft_11_1 zmr_0_1 rfl).trans ?_
    refine (R_iload_n zf153_15 rfl rfl).trans ?_
    refine (R_vcallI zf153_16 zo_153 zvl_11_168 (by rw [zr_20]; rfl) zl_20 (Nat.le_of_ble_eq_true rfl) rfl rfl (Nat.le_of_ble_eq_true rfl) (Nat.le_of_ble_eq_true rfl) (es := [.inr (.inr (.inl 2)), .inl x1]) rfl rfl zk1_2 zo_20).trans ?_
    refine congrArg (cI _) (funext fun a5_ => funext fun h4_ => ?_)
    refine (R_if_ne (t := 24) zf153_19 rfl rfl).trans ?_
    refine ite_congr rfl (fun c6_ => ?_) (fun c6_ => ?_)
    · refine (R_aload_n zf153_24 rfl zlt_0 rfl).trans ?_
      refine (R_getR zf153_25 zo_153 zfl_11_74 zk1_0 zft_11_8 zmr_0_8 rfl).trans ?_
      refine (R_vcallV zf153_28 zo_153 zvl_11_397 zr_150 zl_150 (Nat.le_of_ble_eq_true rfl) rfl rfl (Nat.le_of_ble_eq_true rfl) (Nat.le_of_ble_eq_true rfl) (es := [.inr (.inr (.inl 10)), vU]) rfl rfl zk1_10 zo_150).trans ?_
      refine congrArg (cV _) (funext fun h7_ => ?_)
      refine (R_aload_n zf153_31 rfl zlt_0 rfl).trans ?_
      refine (R_getR zf153_32 zo_153 zfl_11_74 zk1_0 zft_11_8 zmr_0_8 rfl).trans ?_
      refine (R_iload_n zf153_35 rfl rfl).trans ?_
      refine (R_iload_n zf153_36 rfl rfl).trans ?_
      refine (R_vcallI zf153_37 zo_153 zvl_11_406 (by rw [zr_154]; rfl) zl_154 (Nat.le_of_ble_eq_true rfl) rfl rfl (Nat.le_of_ble_eq_true rfl) (Nat.le_of_ble_eq_true rfl) (es := [.inr (.inr (.inl 10)), .inl x0, .inl x1, vU, vU, vU, vU, vU]) rfl rfl zk1_10 zo_154).trans ?_
      refine congrArg (cI _) (funext fun a9_ => funext fun h8_ => ?_)
      exact R_ireturn_i zf153_40 zr_153
    · refine (R_iconst zf153_22 zw_m1 rfl).trans ?_
      exact R_ireturn_i zf153_23 zr_153
-- CannonPost.face(IZ)I at 0
theorem q156_0 (d : Nat) (x0 : Int) (x1 : Int) (h : MH) : Run (d + 1) 156 0 [.inr (.inr (.inl 0)), .inl x0, .inl x1] [] h = (cI (Run d 20 0 [.inr (.inr (.inl 2)), .inl x0] [] h) fun a2_ h1_ => (if a2_ = 0 then some (some (.inl (-1)), h1_) else (cI (Run d 157 0 [.inr (.inr (.inl 10))] [] h1_) fun a5_ h4_ => (if ¬ a5_ = 0 then (cV (Run d 158 0 [.inr (.inr (.inl 10)), .inl x0, .inl x1] [] h4_) fun h7_ => some (some (.inl (h7_ 10 3)), h7_)) else some (some (.inl (-1)), h4_))))) := by
  refine (R_aload_n zf156_0 rfl zlt_0 rfl).trans ?_
  refine (R_getR zf156_1 zo_156 zfl_11_19 zk1_0 zft_11_1 zmr_0_1 rfl).trans ?_
  refine (R_iload_n zf156_4 rfl rfl).trans ?_
  refine (R_vcallI zf156_5 zo_156 zvl_11_168 (by rw [zr_20]; rfl) zl_20 (Nat.le_of_ble_eq_true rfl) rfl rfl (Nat.le_of_ble_eq_true rfl) (Nat.le_of_ble_eq_true rfl) (es := [.inr (.inr (.inl 2)), .inl x0]) rfl rfl zk1_2 zo_20).trans ?_
  refine congrArg (cI _) (funext fun a2_ => funext fun h1_ => ?_)
  refine (R_if_eq (t := 21) zf156_8 rfl rfl).trans ?_
  refine ite_congr rfl (fun c3_ => ?_) (fun c3_ => ?_)
  · refine (R_iconst zf156_21 zw_m1 rfl).trans ?_
    exact R_ireturn_i zf156_22 zr_156
  · refine (R_aload_n zf156_11 rfl zlt_0 rfl).trans ?_
    refine (R_getR zf156_12 zo_156 zfl_11_74 zk1_0 zft_11_8 zmr_0_8 rfl).trans ?_
    refine (R_vcallI zf156_15 zo_156 zvl_11_409 (by rw [zr_157]; rfl) zl_157 (Nat.le_of_ble_eq_true rfl) rfl rfl (Nat.le_of_ble_eq_true rfl) (Nat.le_of_ble_eq_true rfl) (es := [.inr (.inr (.inl 10))]) rfl rfl zk1_10 zo_157).trans ?_
    refine congrArg (cI _) (funext fun a5_ => funext fun h4_ => ?_)
    refine (R_if_ne (t := 23) zf156_18 rfl rfl).trans ?_
    refine ite_congr rfl (fun c6_ => ?_) (fun c6_ => ?_)
    · refine (R_aload_n zf156_23 rfl zlt_0 rfl).trans ?_
      refine (R_getR zf156_24 zo_156 zfl_11_74 zk1_0 zft_11_8 zmr_0_8 rfl).trans ?_
      refine (R_iload_n zf156_27 rfl rfl).trans ?_
      refine (R_iload_n zf156_28 rfl rfl).trans ?_
      refine (R_vcallV zf156_29 zo_156 zvl_11_412 zr_158 zl_158 (Nat.le_of_ble_eq_true rfl) rfl rfl (Nat.le_of_ble_eq_true rfl) (Nat.le_of_ble_eq_true rfl) (es := [.inr (.inr (.inl 10)), .inl x0, .inl x1]) rfl rfl zk1_10 zo_158).trans ?_
      refine congrArg (cV _) (funext fun h7_ => ?_)
      refine (R_aload_n zf156_32 rfl zlt_0 rfl).trans ?_
      refine (R_getR zf156_33 zo_156 zfl_11_74 zk1_0 zft_11_8 zmr_0_8 rfl).trans ?_
      refine (R_getI zf156_36 zo_156 zfl_11_216 zk1_10 zft_1_3 rfl).trans ?_
      exact R_ireturn_i zf156_39 zr_156
    · refine (R_iconst zf156_21 zw_m1 rfl).trans ?_
      exact R_ireturn_i zf156_22 zr_156
-- CannonPost.meant(I)I at 0
theorem q159_0 (d : Nat) (x0 : Int) (h : MH) : Run (d + 1) 159 0 [.inr (.inr (.inl 0)), .inl x0] [] h = (cI (Run d 20 0 [.inr (.inr (.inl 2)), .inl x0] [] h) fun a2_ h1_ => (if a2_ = 0 then some (some (.inl (-1)), h1_) else (cI (Run d 160 0 [.inr (.inr (.inl 10)), .inl x0, vU, vU, vU] [] h1_) fun a5_ h4_ => some (some (.inl a5_), h4_)))) := by
  refine (R_aload_n zf159_0 rfl zlt_0 rfl).trans ?_
  refine (R_getR zf159_1 zo_159 zfl_11_19 zk1_0 zft_11_1 zmr_0_1 rfl).trans ?_
  refine (R_iload_n zf159_4 rfl rfl).trans ?_
  refine (R_vcallI zf159_5 zo_159 zvl_11_168 (by rw [zr_20]; rfl) zl_20 (Nat.le_of_ble_eq_true rfl) rfl rfl (Nat.le_of_ble_eq_true rfl) (Nat.le_of_ble_eq_true rfl) (es := [.inr (.inr (.inl 2)), .inl x0]) rfl rfl zk1_2 zo_20).trans ?_
  refine congrArg (cI _) (funext fun a2_ => funext fun h1_ => ?_)
  refine (R_if_eq (t := 22) zf159_8 rfl rfl).trans ?_
  refine ite_congr rfl (fun c3_ => ?_) (fun c3_ => ?_)
  · refine (R_iconst zf159_22 zw_m1 rfl).trans ?_
    exact R_ireturn_i zf159_23 zr_159
  · refine (R_aload_n zf159_11 rfl zlt_0 rfl).trans ?_
    refine (R_getR zf159_12 zo_159 zfl_11_74 zk1_0 zft_11_8 zmr_0_8 rfl).trans ?_
    refine (R_iload_n zf159_15 rfl rfl).trans ?_
    refine (R_vcallI zf159_16 zo_159 zvl_11_416 (by rw [zr_160]; rfl) zl_160 (Nat.le_of_ble_eq_true rfl) rfl rfl (Nat.le_of_ble_eq_true rfl) (Nat.le_of_ble_eq_true rfl) (es := [.inr (.inr (.inl 10)), .inl x0, vU, vU, vU]) rfl rfl zk1_10 zo_160).trans ?_
    refine congrArg (cI _) (funext fun a5_ => funext fun h4_ => ?_)
    refine (R_goto (t := 23) zf159_19 rfl).trans ?_
    exact R_ireturn_i zf159_23 zr_159
-- CannonPost.following()I at 0
theorem q162_0 (d : Nat) (h : MH) : Run (d + 1) 162 0 [.inr (.inr (.inl 0)), vU, vU, vU, vU] [] h = Run (d + 1) 162 6 [.inr (.inr (.inl 0)), .inl (-1), .inl (-1), .inl 0, vU] [] h := by
  refine (R_iconst zf162_0 zw_m1 rfl).trans ?_
  refine (R_istore_n (ls' := [.inr (.inr (.inl 0)), .inl (-1), vU, vU, vU]) zf162_1 (Nat.le_of_ble_eq_true rfl) rfl rfl).trans ?_
  refine (R_iconst zf162_2 zw_m1 rfl).trans ?_
  refine (R_istore_n (ls' := [.inr (.inr (.inl 0)), .inl (-1), .inl (-1), vU, vU]) zf162_3 (Nat.le_of_ble_eq_true rfl) rfl rfl).trans ?_
  refine (R_iconst zf162_4 zw_0 rfl).trans ?_
  refine (R_istore_n (ls' := [.inr (.inr (.inl 0)), .inl (-1), .inl (-1), .inl 0, vU]) zf162_5 (Nat.le_of_ble_eq_true rfl) rfl rfl).trans ?_
  rfl
-- CannonPost.game(IIIIII)I at 0
theorem q164_0 (d : Nat) (x0 : Int) (x1 : Int) (x2 : Int) (x3 : Int) (x4 : Int) (x5 : Int) (h : MH) : Run (d + 1) 164 0 [.inr (.inr (.inl 0)), .inl x0, .inl x1, .inl x2, .inl x3, .inl x4, .inl x5] [] h = (cI (Run d 145 0 [.inr (.inr (.inl 0)), .inl x0, .inl x1] [] h) fun a2_ h1_ => (if a2_ = 0 then some (some (.inl (-1000000)), h1_) else (cI (Run d 165 0 [.inl x2] [] h1_) fun a5_ h4_ => (if a5_ = 0 then some (some (.inl (-1000000)), h4_) else (cI (Run d 74 0 [.inl x3] [] h4_) fun a8_ h7_ => (if a8_ = 0 then some (some (.inl (-1000000)), h7_) else (cI (Run d 74 0 [.inl x4] [] h7_) fun a11_ h10_ => (if a11_ = 0 then some (some (.inl (-1000000)), h10_) else (if x5 < 0 then some (some (.inl (-1000000)), h10_) else (if x5 ≤ 1 then (if ¬ x5 = 0 then (cI (Run d 166 0 [.inr (.inr (.inl 0)), .inl x1, .inl x2, .inl x4, .inl x3, vU] [] h10_) fun a17_ h16_ => some (some (.inl a17_), h16_)) else (cI (Run d 166 0 [.inr (.inr (.inl 0)), .inl x0, .inl x2, .inl x3, .inl x4, vU] [] h10_) fun a19_ h18_ => some (some (.inl a19_), h18_))) else some (some (.inl (-1000000)), h10_))))))))))) := by
  refine (R_aload_n zf164_0 rfl zlt_0 rfl).trans ?_
  refine (R_iload_n zf164_1 rfl rfl).trans ?_
  refine (R_iload_n zf164_2 rfl rfl).trans ?_
  refine (R_vcallI zf164_3 zo_164 zvl_11_387 (by rw [zr_145]; rfl) zl_145 (Nat.le_of_ble_eq_true rfl) rfl rfl (Nat.le_of_ble_eq_true rfl) (Nat.le_of_ble_eq_true rfl) (es := [.inr (.inr (.inl 0)), .inl x0, .inl x1]) rfl rfl zk1_0 zo_145).trans ?_
  refine congrArg (cI _) (funext fun a2_ => funext fun h1_ => ?_)
  refine (R_if_eq (t := 43) zf164_6 rfl rfl).trans ?_
  refine ite_congr rfl (fun c3_ => ?_) (fun c3_ => ?_)
  · refine (R_ldc zf164_43 zo_164 zcl_11_223 rfl).trans ?_
    exact R_ireturn_i zf164_45 zr_164
  · refine (R_iload_n zf164_9 rfl rfl).trans ?_
    refine (R_callI zf164_10 zo_164 zsl_11_422 (by rw [zr_165]; rfl) zl_165 (Nat.le_of_ble_eq_true rfl) rfl rfl (Nat.le_of_ble_eq_true rfl) (Nat.le_of_ble_eq_true rfl) (es := [.inl x2]) rfl rfl).trans ?_
    refine congrArg (cI _) (funext fun a5_ => funext fun h4_ => ?_)
    refine (R_if_eq (t := 43) zf164_13 rfl rfl).trans ?_
    refine ite_congr rfl (fun c6_ => ?_) (fun c6_ => ?_)
    · refine (R_ldc zf164_43 zo_164 zcl_11_223 rfl).trans ?_
      exact R_ireturn_i zf164_45 zr_164
    · refine (R_iload zf164_16 rfl rfl).trans ?_
      refine (R_callI zf164_18 zo_164 zsl_11_228 (by rw [zr_74]; rfl) zl_74 (Nat.le_of_ble_eq_true rfl) rfl rfl (Nat.le_of_ble_eq_true rfl) (Nat.le_of_ble_eq_true rfl) (es := [.inl x3]) rfl rfl).trans ?_
      refine congrArg (cI _) (funext fun a8_ => funext fun h7_ => ?_)
      refine (R_if_eq (t := 43) zf164_21 rfl rfl).trans ?_
      refine ite_congr rfl (fun c9_ => ?_) (fun c9_ => ?_)
      · refine (R_ldc zf164_43 zo_164 zcl_11_223 rfl).trans ?_
        exact R_ireturn_i zf164_45 zr_164
      · refine (R_iload zf164_24 rfl rfl).trans ?_
        refine (R_callI zf164_26 zo_164 zsl_11_228 (by rw [zr_74]; rfl) zl_74 (Nat.le_of_ble_eq_true rfl) rfl rfl (Nat.le_of_ble_eq_true rfl) (Nat.le_of_ble_eq_true rfl) (es := [.inl x4]) rfl rfl).trans ?_
        refine congrArg (cI _) (funext fun a11_ => funext fun h10_ => ?_)
        refine (R_if_eq (t := 43) zf164_29 rfl rfl).trans ?_
        refine ite_congr rfl (fun c12_ => ?_) (fun c12_ => ?_)
        · refine (R_ldc zf164_43 zo_164 zcl_11_223 rfl).trans ?_
          exact R_ireturn_i zf164_45 zr_164
        · refine (R_iload zf164_32 rfl rfl).trans ?_
          refine (R_if_lt (t := 43) zf164_34 rfl rfl).trans ?_
          refine ite_congr rfl (fun c13_ => ?_) (fun c13_ => ?_)
          · refine (R_ldc zf164_43 zo_164 zcl_11_223 rfl).trans ?_
            exact R_ireturn_i zf164_45 zr_164
          · refine (R_iload zf164_37 rfl rfl).trans ?_
            refine (R_iconst zf164_39 zw_1 rfl).trans ?_
            refine (R_icmp_le (t := 46) zf164_40 rfl rfl).trans ?_
            refine ite_congr rfl (fun c14_ => ?_) (fun c14_ => ?_)
            · refine (R_iload zf164_46 rfl rfl).trans ?_
              refine (R_if_ne (t := 64) zf164_48 rfl rfl).trans ?_
              refine ite_congr rfl (fun c15_ => ?_) (fun c15_ => ?_)
              · refine (R_aload_n zf164_64 rfl zlt_0 rfl).trans ?_
                refine (R_iload_n zf164_65 rfl rfl).trans ?_
                refine (R_iload_n zf164_66 rfl rfl).trans ?_
                refine (R_iload zf164_67 rfl rfl).trans ?_
                refine (R_iload zf164_69 rfl rfl).trans ?_
                refine (R_vcallI zf164_71 zo_164 zvl_11_425 (by rw [zr_166]; rfl) zl_166 (Nat.le_of_ble_eq_true rfl) rfl rfl (Nat.le_of_ble_eq_true rfl) (Nat.le_of_ble_eq_true rfl) (es := [.inr (.inr (.inl 0)), .inl x1, .inl x2, .inl x4, .inl x3, vU]) rfl rfl zk1_0 zo_166).trans ?_
                refine congrArg (cI _) (funext fun a17_ => funext fun h16_ => ?_)
                exact R_ireturn_i zf164_74 zr_164
              · refine (R_aload_n zf164_51 rfl zlt_0 rfl).trans ?_
                refine (R_iload_n zf164_52 rfl rfl).trans ?_
                refine (R_iload_n zf164_53 rfl rfl).trans ?_
                refine (R_iload zf164_54 rfl rfl).trans ?_
                refine (R_iload zf164_56 rfl rfl).trans ?_
                refine (R_vcallI zf164_58 zo_164 zvl_11_425 (by rw [zr_166]; rfl) zl_166 (Nat.le_of_ble_eq_true rfl) rfl rfl (Nat.le_of_ble_eq_true rfl) (Nat.le_of_ble_eq_true rfl) (es := [.inr (.inr (.inl 0)), .inl x0, .inl x2, .inl x3, .inl x4, vU]) rfl rfl zk1_0 zo_166).trans ?_
                refine congrArg (cI _) (funext fun a19_ => funext fun h18_ => ?_)
                refine (R_goto (t := 74) zf164_61 rfl).trans ?_
                exact R_ireturn_i zf164_74 zr_164
            · refine (R_ldc zf164_43 zo_164 zcl_11_223 rfl).trans ?_
              exact R_ireturn_i zf164_45 zr_164
-- CannonPost.rests(IIII)I at 0
theorem q167_0 (d : Nat) (x0 : Int) (x1 : Int) (x2 : Int) (x3 : Int) (h : MH) : Run (d + 1) 167 0 [.inr (.inr (.inl 0)), .inl x0, .inl x1, .inl x2, .inl x3, vU, vU, vU, vU] [] h = (cI (Run d 145 0 [.inr (.inr (.inl 0)), .inl x0, .inl x1] [] h) fun a2_ h1_ => (if a2_ = 0 then some (some (.inl (-1)), h1_) else (cI (Run d 165 0 [.inl x2] [] h1_) fun a5_ h4_ => (if ¬ a5_ = 0 then Run (d + 1) 167 24 [.inr (.inr (.inl 0)), .inl x0, .inl x1, .inl x2, .inl x3, .inl 0, .inl 0, vU, vU] [] h4_ else some (some (.inl (-1)), h4_))))) := by
  refine (R_aload_n zf167_0 rfl zlt_0 rfl).trans ?_
  refine (R_iload_n zf167_1 rfl rfl).trans ?_
  refine (R_iload_n zf167_2 rfl rfl).trans ?_
  refine (R_vcallI zf167_3 zo_167 zvl_11_387 (by rw [zr_145]; rfl) zl_145 (Nat.le_of_ble_eq_true rfl) rfl rfl (Nat.le_of_ble_eq_true rfl) (Nat.le_of_ble_eq_true rfl) (es := [.inr (.inr (.inl 0)), .inl x0, .inl x1]) rfl rfl zk1_0 zo_145).trans ?_
  refine congrArg (cI _) (funext fun a2_ => funext fun h1_ => ?_)
  refine (R_if_eq (t := 16) zf167_6 rfl rfl).trans ?_
  refine ite_congr rfl (fun c3_ => ?_) (fun c3_ => ?_)
  · refine (R_iconst zf167_16 zw_m1 rfl).trans ?_
    exact R_ireturn_i zf167_17 zr_167
  · refine (R_iload_n zf167_9 rfl rfl).trans ?_
    refine (R_callI zf167_10 zo_167 zsl_11_422 (by rw [zr_165]; rfl) zl_165 (Nat.le_of_ble_eq_true rfl) rfl rfl (Nat.le_of_ble_eq_true rfl) (Nat.le_of_ble_eq_true rfl) (es := [.inl x2]) rfl rfl).trans ?_
    refine congrArg (cI _) (funext fun a5_ => funext fun h4_ => ?_)
    refine (R_if_ne (t := 18) zf167_13 rfl rfl).trans ?_
    refine ite_congr rfl (fun c6_ => ?_) (fun c6_ => ?_)
    · refine (R_iconst zf167_18 zw_0 rfl).trans ?_
      refine (R_istore (ls' := [.inr (.inr (.inl 0)), .inl x0, .inl x1, .inl x2, .inl x3, .inl 0, vU, vU, vU]) zf167_19 (Nat.le_of_ble_eq_true rfl) rfl rfl).trans ?_
      refine (R_iconst zf167_21 zw_0 rfl).trans ?_
      refine (R_istore (ls' := [.inr (.inr (.inl 0)), .inl x0, .inl x1, .inl x2, .inl x3, .inl 0, .inl 0, vU, vU]) zf167_22 (Nat.le_of_ble_eq_true rfl) rfl rfl).trans ?_
      rfl
    · refine (R_iconst zf167_16 zw_m1 rfl).trans ?_
      exact R_ireturn_i zf167_17 zr_167
-- CannonPost.stock(I)I at 0
theorem q168_0 (d : Nat) (x0 : Int) (h : MH) : Run (d + 1) 168 0 [.inr (.inr (.inl 0)), .inl x0] [] h = (cI (Run d 61 0 [.inr (.inr (.inl 2))] [] h) fun a2_ h1_ => (if a2_ = 0 then some (some (.inl (-1)), h1_) else (cI (Run d 73 0 [.inl x0] [] h1_) fun a5_ h4_ => (if a5_ = 0 then some (some (.inl (-1)), h4_) else (if x0 = 0 then none else some (some (.inl (wI ((h4_ 91 0).tdiv x0))), h4_)))))) := by
  refine (R_aload_n zf168_0 rfl zlt_0 rfl).trans ?_
  refine (R_getR zf168_1 zo_168 zfl_11_19 zk1_0 zft_11_1 zmr_0_1 rfl).trans ?_
  refine (R_vcallI zf168_4 zo_168 zvl_11_159 (by rw [zr_61]; rfl) zl_61 (Nat.le_of_ble_eq_true rfl) rfl rfl (Nat.le_of_ble_eq_true rfl) (Nat.le_of_ble_eq_true rfl) (es := [.inr (.inr (.inl 2))]) rfl rfl zk1_2 zo_61).trans ?_
  refine congrArg (cI _) (funext fun a2_ => funext fun h1_ => ?_)
  refine (R_if_eq (t := 31) zf168_7 rfl rfl).trans ?_
  refine ite_congr rfl (fun c3_ => ?_) (fun c3_ => ?_)
  · refine (R_iconst zf168_31 zw_m1 rfl).trans ?_
    exact R_ireturn_i zf168_32 zr_168
  · refine (R_iload_n zf168_10 rfl rfl).trans ?_
    refine (R_callI zf168_11 zo_168 zsl_11_268 (by rw [zr_73]; rfl) zl_73 (Nat.le_of_ble_eq_true rfl) rfl rfl (Nat.le_of_ble_eq_true rfl) (Nat.le_of_ble_eq_true rfl) (es := [.inl x0]) rfl rfl).trans ?_
    refine congrArg (cI _) (funext fun a5_ => funext fun h4_ => ?_)
    refine (R_if_eq (t := 31) zf168_14 rfl rfl).trans ?_
    refine ite_congr rfl (fun c6_ => ?_) (fun c6_ => ?_)
    · refine (R_iconst zf168_31 zw_m1 rfl).trans ?_
      exact R_ireturn_i zf168_32 zr_168
    · refine (R_aload_n zf168_17 rfl zlt_0 rfl).trans ?_
      refine (R_getR zf168_18 zo_168 zfl_11_88 zk1_0 zft_11_10 zmr_0_10 rfl).trans ?_
      refine (R_getR zf168_21 zo_168 zfl_11_162 zk1_12 zft_9_0 zmr_12_0 rfl).trans ?_
      refine (R_iconst zf168_24 zw_0 rfl).trans ?_
      refine (R_ialdc zf168_25 zk_91 (by decide) rfl rfl).trans ?_
      refine (R_iload_n zf168_26 rfl rfl).trans ?_
      refine (R_idiv0 zf168_27 rfl).trans ?_
      refine ite_congr rfl (fun _ => rfl) (fun _ => ?_)
      refine (R_goto (t := 32) zf168_28 rfl).trans ?_
      exact R_ireturn_i zf168_32 zr_168
-- CannonPost.hays(I)I at 0
theorem q169_0 (d : Nat) (x0 : Int) (h : MH) : Run (d + 1) 169 0 [.inr (.inr (.inl 0)), .inl x0, vU, vU, vU] [] h = (cI (Run d 61 0 [.inr (.inr (.inl 2))] [] h) fun a2_ h1_ => (if a2_ = 0 then some (some (.inl (-1)), h1_) else (if x0 < 0 then some (some (.inl (-1)), h1_) else (if x0 ≤ 9 then Run (d + 1) 169 27 [.inr (.inr (.inl 0)), .inl x0, .inl 9, .inl 0, vU] [] h1_ else some (some (.inl (-1)), h1_))))) := by
  refine (R_aload_n zf169_0 rfl zlt_0 rfl).trans ?_
  refine (R_getR zf169_1 zo_169 zfl_11_19 zk1_0 zft_11_1 zmr_0_1 rfl).trans ?_
  refine (R_vcallI zf169_4 zo_169 zvl_11_159 (by rw [zr_61]; rfl) zl_61 (Nat.le_of_ble_eq_true rfl) rfl rfl (Nat.le_of_ble_eq_true rfl) (Nat.le_of_ble_eq_true rfl) (es := [.inr (.inr (.inl 2))]) rfl rfl zk1_2 zo_61).trans ?_
  refine congrArg (cI _) (funext fun a2_ => funext fun h1_ => ?_)
  refine (R_if_eq (t := 20) zf169_7 rfl rfl).trans ?_
  refine ite_congr rfl (fun c3_ => ?_) (fun c3_ => ?_)
  · refine (R_iconst zf169_20 zw_m1 rfl).trans ?_
    exact R_ireturn_i zf169_21 zr_169
  · refine (R_iload_n zf169_10 rfl rfl).trans ?_
    refine (R_if_lt (t := 20) zf169_11 rfl rfl).trans ?_
    refine ite_congr rfl (fun c4_ => ?_) (fun c4_ => ?_)
    · refine (R_iconst zf169_20 zw_m1 rfl).trans ?_
      exact R_ireturn_i zf169_21 zr_169
    · refine (R_iload_n zf169_14 rfl rfl).trans ?_
      refine (R_bipush zf169_15 zb_9 rfl).trans ?_
      refine (R_icmp_le (t := 22) zf169_17 rfl rfl).trans ?_
      refine ite_congr rfl (fun c5_ => ?_) (fun c5_ => ?_)
      · refine (R_bipush zf169_22 zb_9 rfl).trans ?_
        refine (R_istore_n (ls' := [.inr (.inr (.inl 0)), .inl x0, .inl 9, vU, vU]) zf169_24 (Nat.le_of_ble_eq_true rfl) rfl rfl).trans ?_
        refine (R_iconst zf169_25 zw_0 rfl).trans ?_
        refine (R_istore_n (ls' := [.inr (.inr (.inl 0)), .inl x0, .inl 9, .inl 0, vU]) zf169_26 (Nat.le_of_ble_eq_true rfl) rfl rfl).trans ?_
        rfl
      · refine (R_iconst zf169_20 zw_m1 rfl).trans ?_
        exact R_ireturn_i zf169_21 zr_169
-- CannonPost.best(II)I at 0
theorem q170_0 (d : Nat) (x0 : Int) (x1 : Int) (h : MH) : Run (d + 1) 170 0 [.inr (.inr (.inl 0)), .inl x0, .inl x1] [] h = (cI (Run d 61 0 [.inr (.inr (.inl 2))] [] h) fun a2_ h1_ => (if a2_ = 0 then some (some (.inl (-1)), h1_) else (if x0 < 0 then some (some (.inl (-1)), h1_) else (if x0 ≤ 1 then (if ¬ x0 = 0 then (cI (Run d 172 0 [.inr (.inr (.inl 2)), .inl x1, vU, vU] [] h1_) fun a8_ h7_ => some (some (.inl a8_), h7_)) else (cI (Run d 171 0 [.inr (.inr (.inl 2)), vU, vU] [] h1_) fun a10_ h9_ => some (some (.inl a10_), h9_))) else some (some (.inl (-1)), h1_))))) := by
  refine (R_aload_n zf170_0 rfl zlt_0 rfl).trans ?_
  refine (R_getR zf170_1 zo_170 zfl_11_19 zk1_0 zft_11_1 zmr_0_1 rfl).trans ?_
  refine (R_vcallI zf170_4 zo_170 zvl_11_159 (by rw [zr_61]; rfl) zl_61 (Nat.le_of_ble_eq_true rfl) rfl rfl (Nat.le_of_ble_eq_true rfl) (Nat.le_of_ble_eq_true rfl) (es := [.inr (.inr (.inl 2))]) rfl rfl zk1_2 zo_61).trans ?_
  refine congrArg (cI _) (funext fun a2_ => funext fun h1_ => ?_)
  refine (R_if_eq (t := 19) zf170_7 rfl rfl).trans ?_
  refine ite_congr rfl (fun c3_ => ?_) (fun c3_ => ?_)
  · refine (R_iconst zf170_19 zw_m1 rfl).trans ?_
    exact R_ireturn_i zf170_20 zr_170
  · refine (R_iload_n zf170_10 rfl rfl).trans ?_
    refine (R_if_lt (t := 19) zf170_11 rfl rfl).trans ?_
    refine ite_congr rfl (fun c4_ => ?_) (fun c4_ => ?_)
    · refine (R_iconst zf170_19 zw_m1 rfl).trans ?_
      exact R_ireturn_i zf170_20 zr_170
    · refine (R_iload_n zf170_14 rfl rfl).trans ?_
      refine (R_iconst zf170_15 zw_1 rfl).trans ?_
      refine (R_icmp_le (t := 21) zf170_16 rfl rfl).trans ?_
      refine ite_congr rfl (fun c5_ => ?_) (fun c5_ => ?_)
      · refine (R_iload_n zf170_21 rfl rfl).trans ?_
        refine (R_if_ne (t := 35) zf170_22 rfl rfl).trans ?_
        refine ite_congr rfl (fun c6_ => ?_) (fun c6_ => ?_)
        · refine (R_aload_n zf170_35 rfl zlt_0 rfl).trans ?_
          refine (R_getR zf170_36 zo_170 zfl_11_19 zk1_0 zft_11_1 zmr_0_1 rfl).trans ?_
          refine (R_iload_n zf170_39 rfl rfl).trans ?_
          refine (R_vcallI zf170_40 zo_170 zvl_11_437 (by rw [zr_172]; rfl) zl_172 (Nat.le_of_ble_eq_true rfl) rfl rfl (Nat.le_of_ble_eq_true rfl) (Nat.le_of_ble_eq_true rfl) (es := [.inr (.inr (.inl 2)), .inl x1, vU, vU]) rfl rfl zk1_2 zo_172).trans ?_
          refine congrArg (cI _) (funext fun a8_ => funext fun h7_ => ?_)
          exact R_ireturn_i zf170_43 zr_170
        · refine (R_aload_n zf170_25 rfl zlt_0 rfl).trans ?_
          refine (R_getR zf170_26 zo_170 zfl_11_19 zk1_0 zft_11_1 zmr_0_1 rfl).trans ?_
          refine (R_vcallI zf170_29 zo_170 zvl_11_434 (by rw [zr_171]; rfl) zl_171 (Nat.le_of_ble_eq_true rfl) rfl rfl (Nat.le_of_ble_eq_true rfl) (Nat.le_of_ble_eq_true rfl) (es := [.inr (.inr (.inl 2)), vU, vU]) rfl rfl zk1_2 zo_171).trans ?_
          refine congrArg (cI _) (funext fun a10_ => funext fun h9_ => ?_)
          refine (R_goto (t := 43) zf170_32 rfl).trans ?_
          exact R_ireturn_i zf170_43 zr_170
      · refine (R_iconst zf170_19 zw_m1 rfl).trans ?_
        exact R_ireturn_i zf170_20 zr_170
-- CannonPost.free()I at 0
theorem q173_0 (d : Nat) (h : MH) : Run (d + 1) 173 0 [.inr (.inr (.inl 0)), vU, vU] [] h = (cI (Run d 61 0 [.inr (.inr (.inl 2))] [] h) fun a2_ h1_ => (if ¬ a2_ = 0 then Run (d + 1) 173 16 [.inr (.inr (.inl 0)), .inl 0, .inl 0] [] h1_ else some (some (.inl (-1)), h1_))) := by
  refine (R_aload_n zf173_0 rfl zlt_0 rfl).trans ?_
  refine (R_getR zf173_1 zo_173 zfl_11_19 zk1_0 zft_11_1 zmr_0_1 rfl).trans ?_
  refine (R_vcallI zf173_4 zo_173 zvl_11_159 (by rw [zr_61]; rfl) zl_61 (Nat.le_of_ble_eq_true rfl) rfl rfl (Nat.le_of_ble_eq_true rfl) (Nat.le_of_ble_eq_true rfl) (es := [.inr (.inr (.inl 2))]) rfl rfl zk1_2 zo_61).trans ?_
  refine congrArg (cI _) (funext fun a2_ => funext fun h1_ => ?_)
  refine (R_if_ne (t := 12) zf173_7 rfl rfl).trans ?_
  refine ite_congr rfl (fun c3_ => ?_) (fun c3_ => ?_)
  · refine (R_iconst zf173_12 zw_0 rfl).trans ?_
    refine (R_istore_n (ls' := [.inr (.inr (.inl 0)), .inl 0, vU]) zf173_13 (Nat.le_of_ble_eq_true rfl) rfl rfl).trans ?_
    refine (R_iconst zf173_14 zw_0 rfl).trans ?_
    refine (R_istore_n (ls' := [.inr (.inr (.inl 0)), .inl 0, .inl 0]) zf173_15 (Nat.le_of_ble_eq_true rfl) rfl rfl).trans ?_
    rfl
  · refine (R_iconst zf173_10 zw_m1 rfl).trans ?_
    exact R_ireturn_i zf173_11 zr_173
-- CannonPost.home(I)I at 0
theorem q174_0 (d : Nat) (x0 : Int) (h : MH) : Run (d + 1) 174 0 [.inr (.inr (.inl 0)), .inl x0, vU, vU, vU] [] h = (cI (Run d 20 0 [.inr (.inr (.inl 2)), .inl x0] [] h) fun a2_ h1_ => (if ¬ a2_ = 0 then Run (d + 1) 174 17 [.inr (.inr (.inl 0)), .inl x0, .inl 0, .inl 0, vU] [] h1_ else some (some (.inl (-1)), h1_))) := by
  refine (R_aload_n zf174_0 rfl zlt_0 rfl).trans ?_
  refine (R_getR zf174_1 zo_174 zfl_11_19 zk1_0 zft_11_1 zmr_0_1 rfl).trans ?_
  refine (R_iload_n zf174_4 rfl rfl).trans ?_
  refine (R_vcallI zf174_5 zo_174 zvl_11_168 (by rw [zr_20]; rfl) zl_20 (Nat.le_of_ble_eq_true rfl) rfl rfl (Nat.le_of_ble_eq_true rfl) (Nat.le_of_ble_eq_true rfl) (es := [.inr (.inr (.inl 2)), .inl x0]) rfl rfl zk1_2 zo_20).trans ?_
  refine congrArg (cI _) (funext fun a2_ => funext fun h1_ => ?_)
  refine (R_if_ne (t := 13) zf174_8 rfl rfl).trans ?_
  refine ite_congr rfl (fun c3_ => ?_) (fun c3_ => ?_)
  · refine (R_iconst zf174_13 zw_0 rfl).trans ?_
    refine (R_istore_n (ls' := [.inr (.inr (.inl 0)), .inl x0, .inl 0, vU, vU]) zf174_14 (Nat.le_of_ble_eq_true rfl) rfl rfl).trans ?_
    refine (R_iconst zf174_15 zw_0 rfl).trans ?_
    refine (R_istore_n (ls' := [.inr (.inr (.inl 0)), .inl x0, .inl 0, .inl 0, vU]) zf174_16 (Nat.le_of_ble_eq_true rfl) rfl rfl).trans ?_
    rfl
  · refine (R_iconst zf174_11 zw_m1 rfl).trans ?_
    exact R_ireturn_i zf174_12 zr_174
-- CannonPost.known(I)I at 0
theorem q175_0 (d : Nat) (x0 : Int) (h : MH) : Run (d + 1) 175 0 [.inr (.inr (.inl 0)), .inl x0] [] h = (cI (Run d 61 0 [.inr (.inr (.inl 2))] [] h) fun a2_ h1_ => (if a2_ = 0 then some (some (.inl (-1)), h1_) else (cI (Run d 92 0 [.inl x0] [] h1_) fun a5_ h4_ => (if a5_ = 0 then some (some (.inl (-1)), h4_) else (cI (Run d 131 0 [.inr (.inr (.inl 12)), .inl x0, .inl (h4_ 2 3), vU, vU] [] h4_) fun a8_ h7_ => some (some (.inl a8_), h7_)))))) := by
  refine (R_aload_n zf175_0 rfl zlt_0 rfl).trans ?_
  refine (R_getR zf175_1 zo_175 zfl_11_19 zk1_0 zft_11_1 zmr_0_1 rfl).trans ?_
  refine (R_vcallI zf175_4 zo_175 zvl_11_159 (by rw [zr_61]; rfl) zl_61 (Nat.le_of_ble_eq_true rfl) rfl rfl (Nat.le_of_ble_eq_true rfl) (Nat.le_of_ble_eq_true rfl) (es := [.inr (.inr (.inl 2))]) rfl rfl zk1_2 zo_61).trans ?_
  refine congrArg (cI _) (funext fun a2_ => funext fun h1_ => ?_)
  refine (R_if_eq (t := 35) zf175_7 rfl rfl).trans ?_
  refine ite_congr rfl (fun c3_ => ?_) (fun c3_ => ?_)
  · refine (R_iconst zf175_35 zw_m1 rfl).trans ?_
    exact R_ireturn_i zf175_36 zr_175
  · refine (R_iload_n zf175_10 rfl rfl).trans ?_
    refine (R_callI zf175_11 zo_175 zsl_11_276 (by rw [zr_92]; rfl) zl_92 (Nat.le_of_ble_eq_true rfl) rfl rfl (Nat.le_of_ble_eq_true rfl) (Nat.le_of_ble_eq_true rfl) (es := [.inl x0]) rfl rfl).trans ?_
    refine congrArg (cI _) (funext fun a5_ => funext fun h4_ => ?_)
    refine (R_if_eq (t := 35) zf175_14 rfl rfl).trans ?_
    refine ite_congr rfl (fun c6_ => ?_) (fun c6_ => ?_)
    · refine (R_iconst zf175_35 zw_m1 rfl).trans ?_
      exact R_ireturn_i zf175_36 zr_175
    · refine (R_aload_n zf175_17 rfl zlt_0 rfl).trans ?_
      refine (R_getR zf175_18 zo_175 zfl_11_88 zk1_0 zft_11_10 zmr_0_10 rfl).trans ?_
      refine (R_iload_n zf175_21 rfl rfl).trans ?_
      refine (R_aload_n zf175_22 rfl zlt_0 rfl).trans ?_
      refine (R_getR zf175_23 zo_175 zfl_11_19 zk1_0 zft_11_1 zmr_0_1 rfl).trans ?_
      refine (R_getI zf175_26 zo_175 zfl_11_119 zk1_2 zft_5_3 rfl).trans ?_
      refine (R_vcallI zf175_29 zo_175 zvl_11_353 (by rw [zr_131]; rfl) zl_131 (Nat.le_of_ble_eq_true rfl) rfl rfl (Nat.le_of_ble_eq_true rfl) (Nat.le_of_ble_eq_true rfl) (es := [.inr (.inr (.inl 12)), .inl x0, .inl (h4_ 2 3), vU, vU]) rfl rfl zk1_12 zo_131).trans ?_
      refine congrArg (cI _) (funext fun a8_ => funext fun h7_ => ?_)
      refine (R_goto (t := 36) zf175_32 rfl).trans ?_
      exact R_ireturn_i zf175_36 zr_175
-- CannonPost.carrier(II)I at 0
theorem q176_0 (d : Nat) (x0 : Int) (x1 : Int) (h : MH) : Run (d + 1) 176 0 [.inr (.inr (.inl 0)), .inl x0, .inl x1] [] h = (cI (Run d 72 0 [.inr (.inr (.inl 2)), .inl x0] [] h) fun a2_ h1_ => (if ¬ a2_ = 0 then (if x1 = 0 then (cI (Run d 82 0 [.inr (.inr (.inl 2)), .inl x0] [] h1_) fun a6_ h5_ => some (some (.inl a6_), h5_)) else (if x1 = 1 then (cI (Run d 83 0 [.inr (.inr (.inl 2)), .inl x0] [] h1_) fun a9_ h8_ => some (some (.inl a9_), h8_)) else (if x1 = 2 then (if 0 ≤ (wI (6 + x0)) ∧ (wI (6 + x0)) < 37 then some (some (.inl (h1_ 91 (wI (6 + x0)).toNat)), h1_) else none) else (if x1 = 3 then (if 0 ≤ (wI (11 + x0)) ∧ (wI (11 + x0)) < 37 then some (some (.inl (h1_ 91 (wI (11 + x0)).toNat)), h1_) else none) else (if x1 = 4 then (if 0 ≤ (wI (16 + x0)) ∧ (wI (16 + x0)) < 37 then some (some (.inl (h1_ 91 (wI (16 + x0)).toNat)), h1_) else none) else Run (d + 1) 176 113 [.inr (.inr (.inl 0)), .inl x0, .inl x1] [] h1_))))) else Run (d + 1) 176 11 [.inr (.inr (.inl 0)), .inl x0, .inl x1] [] h1_)) := by
  refine (R_aload_n zf176_0 rfl zlt_0 rfl).trans ?_
  refine (R_getR zf176_1 zo_176 zfl_11_19 zk1_0 zft_11_1 zmr_0_1 rfl).trans ?_
  refine (R_iload_n zf176_4 rfl rfl).trans ?_
  refine (R_vcallI zf176_5 zo_176 zvl_11_178 (by rw [zr_72]; rfl) zl_72 (Nat.le_of_ble_eq_true rfl) rfl rfl (Nat.le_of_ble_eq_true rfl) (Nat.le_of_ble_eq_true rfl) (es := [.inr (.inr (.inl 2)), .inl x0]) rfl rfl zk1_2 zo_72).trans ?_
  refine congrArg (cI _) (funext fun a2_ => funext fun h1_ => ?_)
  refine (R_if_ne (t := 21) zf176_8 rfl rfl).trans ?_
  refine ite_congr rfl (fun c3_ => ?_) (fun c3_ => ?_)
  · refine (R_iload_n zf176_21 rfl rfl).trans ?_
    refine (switch_if (c := x1 = 0) (fun c4_ => ?_) (fun c4_ => ?_))
    · refine (R_tsw (t := 56) zf176_22 (by omega) (by rw [c4_]; rfl) rfl).trans ?_
      refine (R_aload_n zf176_56 rfl zlt_0 rfl).trans ?_
      refine (R_getR zf176_57 zo_176 zfl_11_19 zk1_0 zft_11_1 zmr_0_1 rfl).trans ?_
      refine (R_iload_n zf176_60 rfl rfl).trans ?_
      refine (R_vcallI zf176_61 zo_176 zvl_11_188 (by rw [zr_82]; rfl) zl_82 (Nat.le_of_ble_eq_true rfl) rfl rfl (Nat.le_of_ble_eq_true rfl) (Nat.le_of_ble_eq_true rfl) (es := [.inr (.inr (.inl 2)), .inl x0]) rfl rfl zk1_2 zo_82).trans ?_
      refine congrArg (cI _) (funext fun a6_ => funext fun h5_ => ?_)
      exact R_ireturn_i zf176_64 zr_176
    refine (switch_if (c := x1 = 1) (fun c7_ => ?_) (fun c7_ => ?_))
    · refine (R_tsw (t := 65) zf176_22 (by omega) (by rw [c7_]; rfl) rfl).trans ?_
      refine (R_aload_n zf176_65 rfl zlt_0 rfl).trans ?_
      refine (R_getR zf176_66 zo_176 zfl_11_19 zk1_0 zft_11_1 zmr_0_1 rfl).trans ?_
      refine (R_iload_n zf176_69 rfl rfl).trans ?_
      refine (R_vcallI zf176_70 zo_176 zvl_11_191 (by rw [zr_83]; rfl) zl_83 (Nat.le_of_ble_eq_true rfl) rfl rfl (Nat.le_of_ble_eq_true rfl) (Nat.le_of_ble_eq_true rfl) (es := [.inr (.inr (.inl 2)), .inl x0]) rfl rfl zk1_2 zo_83).trans ?_
      refine congrArg (cI _) (funext fun a9_ => funext fun h8_ => ?_)
      exact R_ireturn_i zf176_73 zr_176
    refine (switch_if (c := x1 = 2) (fun c10_ => ?_) (fun c10_ => ?_))
    · refine (R_tsw (t := 74) zf176_22 (by omega) (by rw [c10_]; rfl) rfl).trans ?_
      refine (R_aload_n zf176_74 rfl zlt_0 rfl).trans ?_
      refine (R_getR zf176_75 zo_176 zfl_11_88 zk1_0 zft_11_10 zmr_0_10 rfl).trans ?_
      refine (R_getR zf176_78 zo_176 zfl_11_162 zk1_12 zft_9_0 zmr_12_0 rfl).trans ?_
      refine (R_bipush zf176_81 zb_6 rfl).trans ?_
      refine (R_iload_n zf176_83 rfl rfl).trans ?_
      refine (R_iadd zf176_84 rfl).trans ?_
      refine (R_iald zf176_85 zk_91 rfl).trans ?_
      refine ite_congr rfl (fun c11_ => ?_) (fun _ => rfl)
      exact R_ireturn_i zf176_86 zr_176
    refine (switch_if (c := x1 = 3) (fun c12_ => ?_) (fun c12_ => ?_))
    · refine (R_tsw (t := 87) zf176_22 (by omega) (by rw [c12_]; rfl) rfl).trans ?_
      refine (R_aload_n zf176_87 rfl zlt_0 rfl).trans ?_
      refine (R_getR zf176_88 zo_176 zfl_11_88 zk1_0 zft_11_10 zmr_0_10 rfl).trans ?_
      refine (R_getR zf176_91 zo_176 zfl_11_162 zk1_12 zft_9_0 zmr_12_0 rfl).trans ?_
      refine (R_bipush zf176_94 zb_11 rfl).trans ?_
      refine (R_iload_n zf176_96 rfl rfl).trans ?_
      refine (R_iadd zf176_97 rfl).trans ?_
      refine (R_iald zf176_98 zk_91 rfl).trans ?_
      refine ite_congr rfl (fun c13_ => ?_) (fun _ => rfl)
      exact R_ireturn_i zf176_99 zr_176
    refine (switch_if (c := x1 = 4) (fun c14_ => ?_) (fun c14_ => ?_))
    · refine (R_tsw (t := 100) zf176_22 (by omega) (by rw [c14_]; rfl) rfl).trans ?_
      refine (R_aload_n zf176_100 rfl zlt_0 rfl).trans ?_
      refine (R_getR zf176_101 zo_176 zfl_11_88 zk1_0 zft_11_10 zmr_0_10 rfl).trans ?_
      refine (R_getR zf176_104 zo_176 zfl_11_162 zk1_12 zft_9_0 zmr_12_0 rfl).trans ?_
      refine (R_bipush zf176_107 zb_16 rfl).trans ?_
      refine (R_iload_n zf176_109 rfl rfl).trans ?_
      refine (R_iadd zf176_110 rfl).trans ?_
      refine (R_iald zf176_111 zk_91 rfl).trans ?_
      refine ite_congr rfl (fun c15_ => ?_) (fun _ => rfl)
      exact R_ireturn_i zf176_112 zr_176
    refine (R_tswD (t := 113) zf176_22 (by omega) rfl).trans ?_
    rfl
  · rfl
-- CannonPostModel.thrown()I at 0
theorem q177_0 (d : Nat) (h : MH) : Run d 177 0 [.inr (.inr (.inl 97))] [] h = some (some (.inl (h 97 0)), h) := by
  refine (R_aload_n zf177_0 rfl zlt_97 rfl).trans ?_
  refine (R_getI zf177_1 zo_177 zfl_12_96 zk1_97 zft_12_0 rfl).trans ?_
  exact R_ireturn_i zf177_4 zr_177
-- CannonPostModel.feed(IIIII)I at 0
theorem q178_0 (d : Nat) (x0 : Int) (x1 : Int) (x2 : Int) (x3 : Int) (x4 : Int) (h : MH) : Run (d + 1) 178 0 [.inr (.inr (.inl 97)), .inl x0, .inl x1, .inl x2, .inl x3, .inl x4] [] h = (cI (Run d 179 0 [.inl x0, vU, vU] [] (up h 97 0 0)) fun a2_ h1_ => (cI (Run d 179 0 [.inl x1, vU, vU] [] h1_) fun a4_ h3_ => (cI (Run d 179 0 [.inl x2, vU, vU] [] h3_) fun a6_ h5_ => (cI (Run d 179 0 [.inl x3, vU, vU] [] h5_) fun a8_ h7_ => (cI (Run d 179 0 [.inl x4, vU, vU] [] h7_) fun a10_ h9_ => (if (wI ((wI ((wI ((wI ((wI (((up h 97 0 0) 97 6) + a2_)) + a4_)) + a6_)) + a8_)) + a10_)) ≤ 240 then (cV (Run d 180 0 [.inr (.inr (.inl 97)), .inl x0, vU] [] h9_) fun h12_ => (cV (Run d 180 0 [.inr (.inr (.inl 97)), .inl x1, vU] [] h12_) fun h13_ => (cV (Run d 180 0 [.inr (.inr (.inl 97)), .inl x2, vU] [] h13_) fun h14_ => (cV (Run d 180 0 [.inr (.inr (.inl 97)), .inl x3, vU] [] h14_) fun h15_ => (cV (Run d 180 0 [.inr (.inr (.inl 97)), .inl x4, vU] [] h15_) fun h16_ => some (some (.inl (h16_ 97 6)), h16_)))))) else some (some (.inl (-1)), h9_))))))) := by
  refine (R_aload_n zf178_0 rfl zlt_97 rfl).trans ?_
  refine (R_iconst zf178_1 zw_0 rfl).trans ?_
  refine (R_putI zf178_2 zo_178 zfl_12_96 zk1_97 zft_12_0 rfl).trans ?_
  refine (R_aload_n zf178_5 rfl zlt_97 rfl).trans ?_
  refine (R_getI zf178_6 zo_178 zfl_12_109 zk1_97 zft_12_6 rfl).trans ?_
  refine (R_iload_n zf178_9 rfl rfl).trans ?_
  refine (R_callI zf178_10 zo_178 zsl_12_111 (by rw [zr_179]; rfl) zl_179 (Nat.le_of_ble_eq_true rfl) rfl rfl (Nat.le_of_ble_eq_true rfl) (Nat.le_of_ble_eq_true rfl) (es := [.inl x0, vU, vU]) rfl rfl).trans ?_
  refine congrArg (cI _) (funext fun a2_ => funext fun h1_ => ?_)
  refine (R_iadd zf178_13 rfl).trans ?_
  refine (R_iload_n zf178_14 rfl rfl).trans ?_
  refine (R_callI zf178_15 zo_178 zsl_12_111 (by rw [zr_179]; rfl) zl_179 (Nat.le_of_ble_eq_true rfl) rfl rfl (Nat.le_of_ble_eq_true rfl) (Nat.le_of_ble_eq_true rfl) (es := [.inl x1, vU, vU]) rfl rfl).trans ?_
  refine congrArg (cI _) (funext fun a4_ => funext fun h3_ => ?_)
  refine (R_iadd zf178_18 rfl).trans ?_
  refine (R_iload_n zf178_19 rfl rfl).trans ?_
  refine (R_callI zf178_20 zo_178 zsl_12_111 (by rw [zr_179]; rfl) zl_179 (Nat.le_of_ble_eq_true rfl) rfl rfl (Nat.le_of_ble_eq_true rfl) (Nat.le_of_ble_eq_true rfl) (es := [.inl x2, vU, vU]) rfl rfl).trans ?_
  refine congrArg (cI _) (funext fun a6_ => funext fun h5_ => ?_)
  refine (R_iadd zf178_23 rfl).trans ?_
  refine (R_iload zf178_24 rfl rfl).trans ?_
  refine (R_callI zf178_26 zo_178 zsl_12_111 (by rw [zr_179]; rfl) zl_179 (Nat.le_of_ble_eq_true rfl) rfl rfl (Nat.le_of_ble_eq_true rfl) (Nat.le_of_ble_eq_true rfl) (es := [.inl x3, vU, vU]) rfl rfl).trans ?_
  refine congrArg (cI _) (funext fun a8_ => funext fun h7_ => ?_)
  refine (R_iadd zf178_29 rfl).trans ?_
  refine (R_iload zf178_30 rfl rfl).trans ?_
  refine (R_callI zf178_32 zo_178 zsl_12_111 (by rw [zr_179]; rfl) zl_179 (Nat.le_of_ble_eq_true rfl) rfl rfl (Nat.le_of_ble_eq_true rfl) (Nat.le_of_ble_eq_true rfl) (es := [.inl x4, vU, vU]) rfl rfl).trans ?_
  refine congrArg (cI _) (funext fun a10_ => funext fun h9_ => ?_)
  refine (R_iadd zf178_35 rfl).trans ?_
  refine (R_sipush zf178_36 zs_240 rfl).trans ?_
  refine (R_icmp_le (t := 44) zf178_39 rfl rfl).trans ?_
  refine ite_congr rfl (fun c11_ => ?_) (fun c11_ => ?_)
  · refine (R_aload_n zf178_44 rfl zlt_97 rfl).trans ?_
    refine (R_iload_n zf178_45 rfl rfl).trans ?_
    refine (R_vcallV zf178_46 zo_178 zvl_12_115 zr_180 zl_180 (Nat.le_of_ble_eq_true rfl) rfl rfl (Nat.le_of_ble_eq_true rfl) (Nat.le_of_ble_eq_true rfl) (es := [.inr (.inr (.inl 97)), .inl x0, vU]) rfl rfl zk1_97 zo_180).trans ?_
    refine congrArg (cV _) (funext fun h12_ => ?_)
    refine (R_aload_n zf178_49 rfl zlt_97 rfl).trans ?_
    refine (R_iload_n zf178_50 rfl rfl).trans ?_
    refine (R_vcallV zf178_51 zo_178 zvl_12_115 zr_180 zl_180 (Nat.le_of_ble_eq_true rfl) rfl rfl (Nat.le_of_ble_eq_true rfl) (Nat.le_of_ble_eq_true rfl) (es := [.inr (.inr (.inl 97)), .inl x1, vU]) rfl rfl zk1_97 zo_180).trans ?_
    refine congrArg (cV _) (funext fun h13_ => ?_)
    refine (R_aload_n zf178_54 rfl zlt_97 rfl).trans ?_
    refine (R_iload_n zf178_55 rfl rfl).trans ?_
    refine (R_vcallV zf178_56 zo_178 zvl_12_115 zr_180 zl_180 (Nat.le_of_ble_eq_true rfl) rfl rfl (Nat.le_of_ble_eq_true rfl) (Nat.le_of_ble_eq_true rfl) (es := [.inr (.inr (.inl 97)), .inl x2, vU]) rfl rfl zk1_97 zo_180).trans ?_
    refine congrArg (cV _) (funext fun h14_ => ?_)
    refine (R_aload_n zf178_59 rfl zlt_97 rfl).trans ?_
    refine (R_iload zf178_60 rfl rfl).trans ?_
    refine (R_vcallV zf178_62 zo_178 zvl_12_115 zr_180 zl_180 (Nat.le_of_ble_eq_true rfl) rfl rfl (Nat.le_of_ble_eq_true rfl) (Nat.le_of_ble_eq_true rfl) (es := [.inr (.inr (.inl 97)), .inl x3, vU]) rfl rfl zk1_97 zo_180).trans ?_
    refine congrArg (cV _) (funext fun h15_ => ?_)
    refine (R_aload_n zf178_65 rfl zlt_97 rfl).trans ?_
    refine (R_iload zf178_66 rfl rfl).trans ?_
    refine (R_vcallV zf178_68 zo_178 zvl_12_115 zr_180 zl_180 (Nat.le_of_ble_eq_true rfl) rfl rfl (Nat.le_of_ble_eq_true rfl) (Nat.le_of_ble_eq_true rfl) (es := [.inr (.inr (.inl 97)), .inl x4, vU]) rfl rfl zk1_97 zo_180).trans ?_
    refine congrArg (cV _) (funext fun h16_ => ?_)
    refine (R_aload_n zf178_71 rfl zlt_97 rfl).trans ?_
    refine (R_getI zf178_72 zo_178 zfl_12_109 zk1_97 zft_12_6 rfl).trans ?_
    exact R_ireturn_i zf178_75 zr_178
  · refine (R_iconst zf178_42 zw_m1 rfl).trans ?_
    exact R_ireturn_i zf178_43 zr_178
-- CannonPostModel.end(I)Z at 0
theorem q181_0 (d : Nat) (x0 : Int) (h : MH) : Run d 181 0 [.inr (.inr (.inl 97)), .inl x0] [] h = (if x0 < 0 then some (some (.inl 0), (up h 97 0 0)) else (if x0 ≤ ((up h 97 0 0) 97 6) then some (some (.inl 1), (up (up h 97 0 0) 97 6 x0)) else some (some (.inl 0), (up h 97 0 0)))) := by
  refine (R_aload_n zf181_0 rfl zlt_97 rfl).trans ?_
  refine (R_iconst zf181_1 zw_0 rfl).trans ?_
  refine (R_putI zf181_2 zo_181 zfl_12_96 zk1_97 zft_12_0 rfl).trans ?_
  refine (R_iload_n zf181_5 rfl rfl).trans ?_
  refine (R_if_lt (t := 17) zf181_6 rfl rfl).trans ?_
  refine ite_congr rfl (fun c1_ => ?_) (fun c1_ => ?_)
  · refine (R_iconst zf181_17 zw_0 rfl).trans ?_
    exact R_ireturn zf181_18 (by rw [zr_181]; rfl)
  · refine (R_iload_n zf181_9 rfl rfl).trans ?_
    refine (R_aload_n zf181_10 rfl zlt_97 rfl).trans ?_
    refine (R_getI zf181_11 zo_181 zfl_12_109 zk1_97 zft_12_6 rfl).trans ?_
    refine (R_icmp_le (t := 19) zf181_14 rfl rfl).trans ?_
    refine ite_congr rfl (fun c2_ => ?_) (fun c2_ => ?_)
    · refine (R_aload_n zf181_19 rfl zlt_97 rfl).trans ?_
      refine (R_iload_n zf181_20 rfl rfl).trans ?_
      refine (R_putI zf181_21 zo_181 zfl_12_109 zk1_97 zft_12_6 rfl).trans ?_
      refine (R_iconst zf181_24 zw_1 rfl).trans ?_
      exact R_ireturn zf181_25 (by rw [zr_181]; rfl)
    · refine (R_iconst zf181_17 zw_0 rfl).trans ?_
      exact R_ireturn zf181_18 (by rw [zr_181]; rfl)
-- CannonPostModel.fault(I)I at 0
theorem q182_0 (d : Nat) (x0 : Int) (h : MH) : Run (d + 1) 182 0 [.inr (.inr (.inl 97)), .inl x0] [] h = (cI (Run d 183 0 [.inr (.inl x0), vU, .inr (.inl 0), vU, .inr (.inl 2), vU] [] (up h 97 0 0)) fun a2_ h1_ => (if ¬ a2_ = 0 then (if ¬ x0 = 0 then Run (d + 1) 182 28 [.inr (.inr (.inl 97)), .inl x0] [] h1_ else (cV (Run d 184 0 [.inr (.inr (.inl 97)), vU] [] h1_) fun h5_ => Run (d + 1) 182 28 [.inr (.inr (.inl 97)), .inl x0] [] h5_)) else some (some (.inl (-2)), h1_))) := by
  refine (R_aload_n zf182_0 rfl zlt_97 rfl).trans ?_
  refine (R_iconst zf182_1 zw_0 rfl).trans ?_
  refine (R_putI zf182_2 zo_182 zfl_12_96 zk1_97 zft_12_0 rfl).trans ?_
  refine (R_iload_n zf182_5 rfl rfl).trans ?_
  refine (R_i2l zf182_6 rfl).trans ?_
  refine (R_lconst (v := 0) zf182_7 rfl rfl).trans ?_
  refine (R_ldc2_w zf182_8 zo_182 zll_12_275 rfl).trans ?_
  refine (R_callI zf182_11 zo_182 zsl_12_217 (by rw [zr_183]; rfl) zl_183 (Nat.le_of_ble_eq_true rfl) rfl rfl (Nat.le_of_ble_eq_true rfl) (Nat.le_of_ble_eq_true rfl) (es := [.inr (.inl x0), vU, .inr (.inl 0), vU, .inr (.inl 2), vU]) rfl rfl).trans ?_
  refine congrArg (cI _) (funext fun a2_ => funext fun h1_ => ?_)
  refine (R_if_ne (t := 20) zf182_14 rfl rfl).trans ?_
  refine ite_congr rfl (fun c3_ => ?_) (fun c3_ => ?_)
  · refine (R_iload_n zf182_20 rfl rfl).trans ?_
    refine (R_if_ne (t := 28) zf182_21 rfl rfl).trans ?_
    refine ite_congr rfl (fun c4_ => ?_) (fun c4_ => ?_)
    · rfl
    · refine (R_aload_n zf182_24 rfl zlt_97 rfl).trans ?_
      refine (R_vcallV zf182_25 zo_182 zvl_12_277 zr_184 zl_184 (Nat.le_of_ble_eq_true rfl) rfl rfl (Nat.le_of_ble_eq_true rfl) (Nat.le_of_ble_eq_true rfl) (es := [.inr (.inr (.inl 97)), vU]) rfl rfl zk1_97 zo_184).trans ?_
      refine congrArg (cV _) (funext fun h5_ => ?_)
      rfl
  · refine (R_bipush zf182_17 zb_m2 rfl).trans ?_
    exact R_ireturn_i zf182_19 zr_182
-- CannonPostModel.text(I)I at 0
theorem q216_0 (d : Nat) (x0 : Int) (h : MH) : Run (d + 1) 216 0 [.inr (.inr (.inl 97)), .inl x0, vU, vU] [] h = (cI (Run d 183 0 [.inr (.inl x0), vU, .inr (.inl 0), vU, .inr (.inl 2), vU] [] (up h 97 0 0)) fun a2_ h1_ => (if a2_ = 0 then some (some (.inl (-1)), h1_) else (if ¬ x0 = 1 then (if ¬ x0 = 2 then Run (d + 1) 216 43 [.inr (.inr (.inl 97)), .inl x0, vU, vU] [] h1_ else (if (h1_ 97 30) = 4 then some (some (.inl (-1)), h1_) else Run (d + 1) 216 43 [.inr (.inr (.inl 97)), .inl x0, vU, vU] [] h1_)) else (if (h1_ 97 7) = 4 then some (some (.inl (-1)), h1_) else (if ¬ x0 = 2 then Run (d + 1) 216 43 [.inr (.inr (.inl 97)), .inl x0, vU, vU] [] h1_ else (if (h1_ 97 30) = 4 then some (some (.inl (-1)), h1_) else Run (d + 1) 216 43 [.inr (.inr (.inl 97)), .inl x0, vU, vU] [] h1_)))))) := by
  refine (R_aload_n zf216_0 rfl zlt_97 rfl).trans ?_
  refine (R_iconst zf216_1 zw_0 rfl).trans ?_
  refine (R_putI zf216_2 zo_216 zfl_12_96 zk1_97 zft_12_0 rfl).trans ?_
  refine (R_iload_n zf216_5 rfl rfl).trans ?_
  refine (R_i2l zf216_6 rfl).trans ?_
  refine (R_lconst (v := 0) zf216_7 rfl rfl).trans ?_
  refine (R_ldc2_w zf216_8 zo_216 zll_12_275 rfl).trans ?_
  refine (R_callI zf216_11 zo_216 zsl_12_217 (by rw [zr_183]; rfl) zl_183 (Nat.le_of_ble_eq_true rfl) rfl rfl (Nat.le_of_ble_eq_true rfl) (Nat.le_of_ble_eq_true rfl) (es := [.inr (.inl x0), vU, .inr (.inl 0), vU, .inr (.inl 2), vU]) rfl rfl).trans ?_
  refine congrArg (cI _) (funext fun a2_ => funext fun h1_ => ?_)
  refine (R_if_eq (t := 52) zf216_14 rfl rfl).trans ?_
  refine ite_congr rfl (fun c3_ => ?_) (fun c3_ => ?_)
  · refine (R_iconst zf216_52 zw_m1 rfl).trans ?_
    exact R_ireturn_i zf216_53 zr_216
  · refine (R_iload_n zf216_17 rfl rfl).trans ?_
    refine (R_iconst zf216_18 zw_1 rfl).trans ?_
    refine (R_icmp_ne (t := 30) zf216_19 rfl rfl).trans ?_
    refine ite_congr rfl (fun c4_ => ?_) (fun c4_ => ?_)
    · refine (R_iload_n zf216_30 rfl rfl).trans ?_
      refine (R_iconst zf216_31 zw_2 rfl).trans ?_
      refine (R_icmp_ne (t := 43) zf216_32 rfl rfl).trans ?_
      refine ite_congr rfl (fun c5_ => ?_) (fun c5_ => ?_)
      · rfl
      · refine (R_aload_n zf216_35 rfl zlt_97 rfl).trans ?_
        refine (R_getI zf216_36 zo_216 zfl_12_289 zk1_97 zft_12_30 rfl).trans ?_
        refine (R_iconst zf216_39 zw_4 rfl).trans ?_
        refine (R_icmp_eq (t := 52) zf216_40 rfl rfl).trans ?_
        refine ite_congr rfl (fun c6_ => ?_) (fun c6_ => ?_)
        · refine (R_iconst zf216_52 zw_m1 rfl).trans ?_
          exact R_ireturn_i zf216_53 zr_216
        · rfl
    · refine (R_aload_n zf216_22 rfl zlt_97 rfl).trans ?_
      refine (R_getI zf216_23 zo_216 zfl_12_286 zk1_97 zft_12_7 rfl).trans ?_
      refine (R_iconst zf216_26 zw_4 rfl).trans ?_
      refine (R_icmp_eq (t := 52) zf216_27 rfl rfl).trans ?_
      refine ite_congr rfl (fun c7_ => ?_) (fun c7_ => ?_)
      · refine (R_iconst zf216_52 zw_m1 rfl).trans ?_
        exact R_ireturn_i zf216_53 zr_216
      · refine (R_iload_n zf216_30 rfl rfl).trans ?_
        refine (R_iconst zf216_31 zw_2 rfl).trans ?_
        refine (R_icmp_ne (t := 43) zf216_32 rfl rfl).trans ?_
        refine ite_congr rfl (fun c8_ => ?_) (fun c8_ => ?_)
        · rfl
        · refine (R_aload_n zf216_35 rfl zlt_97 rfl).trans ?_
          refine (R_getI zf216_36 zo_216 zfl_12_289 zk1_97 zft_12_30 rfl).trans ?_
          refine (R_iconst zf216_39 zw_4 rfl).trans ?_
          refine (R_icmp_eq (t := 52) zf216_40 rfl rfl).trans ?_
          refine ite_congr rfl (fun c9_ => ?_) (fun c9_ => ?_)
          · refine (R_iconst zf216_52 zw_m1 rfl).trans ?_
            exact R_ireturn_i zf216_53 zr_216
          · rfl
-- CannonPostModel.rule(I)I at 0
theorem q218_0 (d : Nat) (x0 : Int) (h : MH) : Run (d + 1) 218 0 [.inr (.inr (.inl 97)), .inl x0] [] h = (if ((up h 97 0 0) 97 26) = 0 then some (some (.inl (-1)), (up h 97 0 0)) else (cI (Run d 183 0 [.inr (.inl x0), vU, .inr (.inl 0), vU, .inr (.inl 4), vU] [] (up h 97 0 0)) fun a3_ h2_ => (if ¬ a3_ = 0 then (if x0 = 0 then some (some (.inl (h2_ 110 32)), h2_) else (if x0 = 1 then some (some (.inl (h2_ 110 33)), h2_) else (if x0 = 2 then some (some (.inl (h2_ 110 31)), h2_) else (if x0 = 3 then some (some (.inl (h2_ 102 3)), h2_) else some (some (.inl (h2_ 110 34)), h2_))))) else some (some (.inl (-1)), h2_)))) := by
  refine (R_aload_n zf218_0 rfl zlt_97 rfl).trans ?_
  refine (R_iconst zf218_1 zw_0 rfl).trans ?_
  refine (R_putI zf218_2 zo_218 zfl_12_96 zk1_97 zft_12_0 rfl).trans ?_
  refine (R_aload_n zf218_5 rfl zlt_97 rfl).trans ?_
  refine (R_getI zf218_6 zo_218 zfl_12_294 zk1_97 zft_12_26 rfl).trans ?_
  refine (R_if_eq (t := 24) zf218_9 rfl rfl).trans ?_
  refine ite_congr rfl (fun c1_ => ?_) (fun c1_ => ?_)
  · refine (R_iconst zf218_24 zw_m1 rfl).trans ?_
    exact R_ireturn_i zf218_25 zr_218
  · refine (R_iload_n zf218_12 rfl rfl).trans ?_
    refine (R_i2l zf218_13 rfl).trans ?_
    refine (R_lconst (v := 0) zf218_14 rfl rfl).trans ?_
    refine (R_ldc2_w zf218_15 zo_218 zll_12_360 rfl).trans ?_
    refine (R_callI zf218_18 zo_218 zsl_12_217 (by rw [zr_183]; rfl) zl_183 (Nat.le_of_ble_eq_true rfl) rfl rfl (Nat.le_of_ble_eq_true rfl) (Nat.le_of_ble_eq_true rfl) (es := [.inr (.inl x0), vU, .inr (.inl 0), vU, .inr (.inl 4), vU]) rfl rfl).trans ?_
    refine congrArg (cI _) (funext fun a3_ => funext fun h2_ => ?_)
    refine (R_if_ne (t := 26) zf218_21 rfl rfl).trans ?_
    refine ite_congr rfl (fun c4_ => ?_) (fun c4_ => ?_)
    · refine (R_iload_n zf218_26 rfl rfl).trans ?_
      refine (switch_if (c := x0 = 0) (fun c5_ => ?_) (fun c5_ => ?_))
      · refine (R_tsw (t := 56) zf218_27 (by omega) (by rw [c5_]; rfl) rfl).trans ?_
        refine (R_aload_n zf218_56 rfl zlt_97 rfl).trans ?_
        refine (R_getR zf218_57 zo_218 zfl_12_61 zk1_97 zft_12_32 zmr_97_32 rfl).trans ?_
        refine (R_bipush zf218_60 zb_32 rfl).trans ?_
        refine (R_ialdc zf218_62 zk_110 (by decide) rfl rfl).trans ?_
        exact R_ireturn_i zf218_63 zr_218
      refine (switch_if (c := x0 = 1) (fun c6_ => ?_) (fun c6_ => ?_))
      · refine (R_tsw (t := 64) zf218_27 (by omega) (by rw [c6_]; rfl) rfl).trans ?_
        refine (R_aload_n zf218_64 rfl zlt_97 rfl).trans ?_
        refine (R_getR zf218_65 zo_218 zfl_12_61 zk1_97 zft_12_32 zmr_97_32 rfl).trans ?_
        refine (R_bipush zf218_68 zb_33 rfl).trans ?_
        refine (R_ialdc zf218_70 zk_110 (by decide) rfl rfl).trans ?_
        exact R_ireturn_i zf218_71 zr_218
      refine (switch_if (c := x0 = 2) (fun c7_ => ?_) (fun c7_ => ?_))
      · refine (R_tsw (t := 72) zf218_27 (by omega) (by rw [c7_]; rfl) rfl).trans ?_
        refine (R_aload_n zf218_72 rfl zlt_97 rfl).trans ?_
        refine (R_getR zf218_73 zo_218 zfl_12_61 zk1_97 zft_12_32 zmr_97_32 rfl).trans ?_
        refine (R_bipush zf218_76 zb_31 rfl).trans ?_
        refine (R_ialdc zf218_78 zk_110 (by decide) rfl rfl).trans ?_
        exact R_ireturn_i zf218_79 zr_218
      refine (switch_if (c := x0 = 3) (fun c8_ => ?_) (fun c8_ => ?_))
      · refine (R_tsw (t := 80) zf218_27 (by omega) (by rw [c8_]; rfl) rfl).trans ?_
        refine (R_aload_n zf218_80 rfl zlt_97 rfl).trans ?_
        refine (R_getR zf218_81 zo_218 zfl_12_37 zk1_97 zft_12_18 zmr_97_18 rfl).trans ?_
        refine (R_iconst zf218_84 zw_3 rfl).trans ?_
        refine (R_ialdc zf218_85 zk_102 (by decide) rfl rfl).trans ?_
        exact R_ireturn_i zf218_86 zr_218
      refine (R_tswD (t := 87) zf218_27 (by omega) rfl).trans ?_
      refine (R_aload_n zf218_87 rfl zlt_97 rfl).trans ?_
      refine (R_getR zf218_88 zo_218 zfl_12_61 zk1_97 zft_12_32 zmr_97_32 rfl).trans ?_
      refine (R_bipush zf218_91 zb_34 rfl).trans ?_
      refine (R_ialdc zf218_93 zk_110 (by decide) rfl rfl).trans ?_
      exact R_ireturn_i zf218_94 zr_218
    · refine (R_iconst zf218_24 zw_m1 rfl).trans ?_
      exact R_ireturn_i zf218_25 zr_218
-- CannonPostModel.fort(II)I at 0
theorem q219_0 (d : Nat) (x0 : Int) (x1 : Int) (h : MH) : Run (d + 1) 219 0 [.inr (.inr (.inl 97)), .inl x0, .inl x1] [] h = (cI (Run d 220 0 [.inr (.inr (.inl 97)), .inl x0] [] (up h 97 0 0)) fun a2_ h1_ => (if a2_ = 0 then some (some (.inl (-1)), h1_) else (cI (Run d 183 0 [.inr (.inl x1), vU, .inr (.inl 0), vU, .inr (.inl 3), vU] [] h1_) fun a5_ h4_ => (if ¬ a5_ = 0 then (if ¬ x1 = 2 then (if ¬ x1 = 3 then (if 0 ≤ (wI ((wI (3 * x0)) + x1)) ∧ (wI ((wI (3 * x0)) + x1)) < 24 then some (some (.inl (h4_ 104 (wI ((wI (3 * x0)) + x1)).toNat)), h4_) else none) else (if 0 ≤ (wI (8 + x0)) ∧ (wI (8 + x0)) < 277 then some (some (.inl (h4_ 110 (wI (8 + x0)).toNat)), h4_) else none)) else (if 0 ≤ (wI (0 + x0)) ∧ (wI (0 + x0)) < 277 then some (some (.inl (h4_ 110 (wI (0 + x0)).toNat)), h4_) else none)) else some (some (.inl (-1)), h4_))))) := by
  refine (R_aload_n zf219_0 rfl zlt_97 rfl).trans ?_
  refine (R_iconst zf219_1 zw_0 rfl).trans ?_
  refine (R_putI zf219_2 zo_219 zfl_12_96 zk1_97 zft_12_0 rfl).trans ?_
  refine (R_aload_n zf219_5 rfl zlt_97 rfl).trans ?_
  refine (R_iload_n zf219_6 rfl rfl).trans ?_
  refine (R_vcallI zf219_7 zo_219 zvl_12_362 (by rw [zr_220]; rfl) zl_220 (Nat.le_of_ble_eq_true rfl) rfl rfl (Nat.le_of_ble_eq_true rfl) (Nat.le_of_ble_eq_true rfl) (es := [.inr (.inr (.inl 97)), .inl x0]) rfl rfl zk1_97 zo_220).trans ?_
  refine congrArg (cI _) (funext fun a2_ => funext fun h1_ => ?_)
  refine (R_if_eq (t := 25) zf219_10 rfl rfl).trans ?_
  refine ite_congr rfl (fun c3_ => ?_) (fun c3_ => ?_)
  · refine (R_iconst zf219_25 zw_m1 rfl).trans ?_
    exact R_ireturn_i zf219_26 zr_219
  · refine (R_iload_n zf219_13 rfl rfl).trans ?_
    refine (R_i2l zf219_14 rfl).trans ?_
    refine (R_lconst (v := 0) zf219_15 rfl rfl).trans ?_
    refine (R_ldc2_w zf219_16 zo_219 zll_12_365 rfl).trans ?_
    refine (R_callI zf219_19 zo_219 zsl_12_217 (by rw [zr_183]; rfl) zl_183 (Nat.le_of_ble_eq_true rfl) rfl rfl (Nat.le_of_ble_eq_true rfl) (Nat.le_of_ble_eq_true rfl) (es := [.inr (.inl x1), vU, .inr (.inl 0), vU, .inr (.inl 3), vU]) rfl rfl).trans ?_
    refine congrArg (cI _) (funext fun a5_ => funext fun h4_ => ?_)
    refine (R_if_ne (t := 27) zf219_22 rfl rfl).trans ?_
    refine ite_congr rfl (fun c6_ => ?_) (fun c6_ => ?_)
    · refine (R_iload_n zf219_27 rfl rfl).trans ?_
      refine (R_iconst zf219_28 zw_2 rfl).trans ?_
      refine (R_icmp_ne (t := 43) zf219_29 rfl rfl).trans ?_
      refine ite_congr rfl (fun c7_ => ?_) (fun c7_ => ?_)
      · refine (R_iload_n zf219_43 rfl rfl).trans ?_
        refine (R_iconst zf219_44 zw_3 rfl).trans ?_
        refine (R_icmp_ne (t := 60) zf219_45 rfl rfl).trans ?_
        refine ite_congr rfl (fun c8_ => ?_) (fun c8_ => ?_)
        · refine (R_aload_n zf219_60 rfl zlt_97 rfl).trans ?_
          refine (R_getR zf219_61 zo_219 zfl_12_43 zk1_97 zft_12_20 zmr_97_20 rfl).trans ?_
          refine (R_iconst zf219_64 zw_3 rfl).trans ?_
          refine (R_iload_n zf219_65 rfl rfl).trans ?_
          refine (R_imul zf219_66 rfl).trans ?_
          refine (R_iload_n zf219_67 rfl rfl).trans ?_
          refine (R_iadd zf219_68 rfl).trans ?_
          refine (R_iald zf219_69 zk_104 rfl).trans ?_
          refine ite_congr rfl (fun c9_ => ?_) (fun _ => rfl)
          exact R_ireturn_i zf219_70 zr_219
        · refine (R_aload_n zf219_48 rfl zlt_97 rfl).trans ?_
          refine (R_getR zf219_49 zo_219 zfl_12_61 zk1_97 zft_12_32 zmr_97_32 rfl).trans ?_
          refine (R_bipush zf219_52 zb_8 rfl).trans ?_
          refine (R_iload_n zf219_54 rfl rfl).trans ?_
          refine (R_iadd zf219_55 rfl).trans ?_
          refine (R_iald zf219_56 zk_110 rfl).trans ?_
          refine ite_congr rfl (fun c10_ => ?_) (fun _ => rfl)
          refine (R_goto (t := 70) zf219_57 rfl).trans ?_
          exact R_ireturn_i zf219_70 zr_219
      · refine (R_aload_n zf219_32 rfl zlt_97 rfl).trans ?_
        refine (R_getR zf219_33 zo_219 zfl_12_61 zk1_97 zft_12_32 zmr_97_32 rfl).trans ?_
        refine (R_iconst zf219_36 zw_0 rfl).trans ?_
        refine (R_iload_n zf219_37 rfl rfl).trans ?_
        refine (R_iadd zf219_38 rfl).trans ?_
        refine (R_iald zf219_39 zk_110 rfl).trans ?_
        refine ite_congr rfl (fun c11_ => ?_) (fun _ => rfl)
        refine (R_goto (t := 70) zf219_40 rfl).trans ?_
        exact R_ireturn_i zf219_70 zr_219
    · refine (R_iconst zf219_25 zw_m1 rfl).trans ?_
      exact R_ireturn_i zf219_26 zr_219
-- CannonPostModel.carrier(II)I at 0
theorem q221_0 (d : Nat) (x0 : Int) (x1 : Int) (h : MH) : Run (d + 1) 221 0 [.inr (.inr (.inl 97)), .inl x0, .inl x1] [] h = (cI (Run d 222 0 [.inr (.inr (.inl 97)), .inl x0] [] h) fun a2_ h1_ => (if a2_ = 0 then Run (d + 1) 221 26 [.inr (.inr (.inl 97)), .inl x0, .inl x1] [.inl 1, .inr (.inr (.inl 97))] h1_ else (cI (Run d 183 0 [.inr (.inl x1), vU, .inr (.inl 0), vU, .inr (.inl 4), vU] [] h1_) fun a5_ h4_ => (if a5_ = 0 then Run (d + 1) 221 26 [.inr (.inr (.inl 97)), .inl x0, .inl x1] [.inl 1, .inr (.inr (.inl 97))] h4_ else Run (d + 1) 221 26 [.inr (.inr (.inl 97)), .inl x0, .inl x1] [.inl 0, .inr (.inr (.inl 97))] h4_)))) := by
  refine (R_aload_n zf221_0 rfl zlt_97 rfl).trans ?_
  refine (R_aload_n zf221_1 rfl zlt_97 rfl).trans ?_
  refine (R_iload_n zf221_2 rfl rfl).trans ?_
  refine (R_vcallI zf221_3 zo_221 zvl_12_339 (by rw [zr_222]; rfl) zl_222 (Nat.le_of_ble_eq_true rfl) rfl rfl (Nat.le_of_ble_eq_true rfl) (Nat.le_of_ble_eq_true rfl) (es := [.inr (.inr (.inl 97)), .inl x0]) rfl rfl zk1_97 zo_222).trans ?_
  refine congrArg (cI _) (funext fun a2_ => funext fun h1_ => ?_)
  refine (R_if_eq (t := 25) zf221_6 rfl rfl).trans ?_
  refine ite_congr rfl (fun c3_ => ?_) (fun c3_ => ?_)
  · refine (R_iconst zf221_25 zw_1 rfl).trans ?_
    rfl
  · refine (R_iload_n zf221_9 rfl rfl).trans ?_
    refine (R_i2l zf221_10 rfl).trans ?_
    refine (R_lconst (v := 0) zf221_11 rfl rfl).trans ?_
    refine (R_ldc2_w zf221_12 zo_221 zll_12_360 rfl).trans ?_
    refine (R_callI zf221_15 zo_221 zsl_12_217 (by rw [zr_183]; rfl) zl_183 (Nat.le_of_ble_eq_true rfl) rfl rfl (Nat.le_of_ble_eq_true rfl) (Nat.le_of_ble_eq_true rfl) (es := [.inr (.inl x1), vU, .inr (.inl 0), vU, .inr (.inl 4), vU]) rfl rfl).trans ?_
    refine congrArg (cI _) (funext fun a5_ => funext fun h4_ => ?_)
    refine (R_if_eq (t := 25) zf221_18 rfl rfl).trans ?_
    refine ite_congr rfl (fun c6_ => ?_) (fun c6_ => ?_)
    · refine (R_iconst zf221_25 zw_1 rfl).trans ?_
      rfl
    · refine (R_iconst zf221_21 zw_0 rfl).trans ?_
      refine (R_goto (t := 26) zf221_22 rfl).trans ?_
      rfl
-- CannonPostModel.law(I)Z at 0
theorem q224_0 (d : Nat) (x0 : Int) (h : MH) : Run (d + 1) 224 0 [.inr (.inr (.inl 97)), .inl x0] [] h = (if x0 = (-1) then some (some (.inl 1), (up (up h 97 0 0) 97 34 x0)) else (cI (Run d 183 0 [.inr (.inl x0), vU, .inr (.inl 0), vU, .inr (.inl (wI (((up h 97 0 0) 97 7) - 1))), vU] [] (up h 97 0 0)) fun a3_ h2_ => (if ¬ a3_ = 0 then some (some (.inl 1), (up h2_ 97 34 x0)) else some (some (.inl 0), h2_)))) := by
  refine (R_aload_n zf224_0 rfl zlt_97 rfl).trans ?_
  refine (R_iconst zf224_1 zw_0 rfl).trans ?_
  refine (R_putI zf224_2 zo_224 zfl_12_96 zk1_97 zft_12_0 rfl).trans ?_
  refine (R_iload_n zf224_5 rfl rfl).trans ?_
  refine (R_iconst zf224_6 zw_m1 rfl).trans ?_
  refine (R_icmp_eq (t := 28) zf224_7 rfl rfl).trans ?_
  refine ite_congr rfl (fun c1_ => ?_) (fun c1_ => ?_)
  · refine (R_aload_n zf224_28 rfl zlt_97 rfl).trans ?_
    refine (R_iload_n zf224_29 rfl rfl).trans ?_
    refine (R_putI zf224_30 zo_224 zfl_12_67 zk1_97 zft_12_34 rfl).trans ?_
    refine (R_iconst zf224_33 zw_1 rfl).trans ?_
    exact R_ireturn zf224_34 (by rw [zr_224]; rfl)
  · refine (R_iload_n zf224_10 rfl rfl).trans ?_
    refine (R_i2l zf224_11 rfl).trans ?_
    refine (R_lconst (v := 0) zf224_12 rfl rfl).trans ?_
    refine (R_aload_n zf224_13 rfl zlt_97 rfl).trans ?_
    refine (R_getI zf224_14 zo_224 zfl_12_286 zk1_97 zft_12_7 rfl).trans ?_
    refine (R_iconst zf224_17 zw_1 rfl).trans ?_
    refine (R_isub zf224_18 rfl).trans ?_
    refine (R_i2l zf224_19 rfl).trans ?_
    refine (R_callI zf224_20 zo_224 zsl_12_217 (by rw [zr_183]; rfl) zl_183 (Nat.le_of_ble_eq_true rfl) rfl rfl (Nat.le_of_ble_eq_true rfl) (Nat.le_of_ble_eq_true rfl) (es := [.inr (.inl x0), vU, .inr (.inl 0), vU, .inr (.inl (wI (((up h 97 0 0) 97 7) - 1))), vU]) rfl rfl).trans ?_
    refine congrArg (cI _) (funext fun a3_ => funext fun h2_ => ?_)
    refine (R_if_ne (t := 28) zf224_23 rfl rfl).trans ?_
    refine ite_congr rfl (fun c4_ => ?_) (fun c4_ => ?_)
    · refine (R_aload_n zf224_28 rfl zlt_97 rfl).trans ?_
      refine (R_iload_n zf224_29 rfl rfl).trans ?_
      refine (R_putI zf224_30 zo_224 zfl_12_67 zk1_97 zft_12_34 rfl).trans ?_
      refine (R_iconst zf224_33 zw_1 rfl).trans ?_
      exact R_ireturn zf224_34 (by rw [zr_224]; rfl)
    · refine (R_iconst zf224_26 zw_0 rfl).trans ?_
      exact R_ireturn zf224_27 (by rw [zr_224]; rfl)
-- CannonPostModel.damps(I)Z at 0
theorem q225_0 (d : Nat) (x0 : Int) (h : MH) : Run (d + 1) 225 0 [.inr (.inr (.inl 97)), .inl x0] [] h = (cI (Run d 183 0 [.inr (.inl x0), vU, .inr (.inl 0), vU, .inr (.inl 9), vU] [] (up h 97 0 0)) fun a2_ h1_ => (if a2_ = 0 then some (some (.inl 0), h1_) else (if ¬ x0 = (h1_ 97 35) then some (some (.inl 1), (up h1_ 97 35 x0)) else some (some (.inl 0), h1_)))) := by
  refine (R_aload_n zf225_0 rfl zlt_97 rfl).trans ?_
  refine (R_iconst zf225_1 zw_0 rfl).trans ?_
  refine (R_putI zf225_2 zo_225 zfl_12_96 zk1_97 zft_12_0 rfl).trans ?_
  refine (R_iload_n zf225_5 rfl rfl).trans ?_
  refine (R_i2l zf225_6 rfl).trans ?_
  refine (R_lconst (v := 0) zf225_7 rfl rfl).trans ?_
  refine (R_ldc2_w zf225_8 zo_225 zll_12_367 rfl).trans ?_
  refine (R_callI zf225_11 zo_225 zsl_12_217 (by rw [zr_183]; rfl) zl_183 (Nat.le_of_ble_eq_true rfl) rfl rfl (Nat.le_of_ble_eq_true rfl) (Nat.le_of_ble_eq_true rfl) (es := [.inr (.inl x0), vU, .inr (.inl 0), vU, .inr (.inl 9), vU]) rfl rfl).trans ?_
  refine congrArg (cI _) (funext fun a2_ => funext fun h1_ => ?_)
  refine (R_if_eq (t := 25) zf225_14 rfl rfl).trans ?_
  refine ite_congr rfl (fun c3_ => ?_) (fun c3_ => ?_)
  · refine (R_iconst zf225_25 zw_0 rfl).trans ?_
    exact R_ireturn zf225_26 (by rw [zr_225]; rfl)
  · refine (R_iload_n zf225_17 rfl rfl).trans ?_
    refine (R_aload_n zf225_18 rfl zlt_97 rfl).trans ?_
    refine (R_getI zf225_19 zo_225 zfl_12_369 zk1_97 zft_12_35 rfl).trans ?_
    refine (R_icmp_ne (t := 27) zf225_22 rfl rfl).trans ?_
    refine ite_congr rfl (fun c4_ => ?_) (fun c4_ => ?_)
    · refine (R_aload_n zf225_27 rfl zlt_97 rfl).trans ?_
      refine (R_iload_n zf225_28 rfl rfl).trans ?_
      refine (R_putI zf225_29 zo_225 zfl_12_369 zk1_97 zft_12_35 rfl).trans ?_
      refine (R_iconst zf225_32 zw_1 rfl).trans ?_
      exact R_ireturn zf225_33 (by rw [zr_225]; rfl)
    · refine (R_iconst zf225_25 zw_0 rfl).trans ?_
      exact R_ireturn zf225_26 (by rw [zr_225]; rfl)
-- CannonPostModel.shoot(IIII)I at 0
theorem q226_0 (d : Nat) (x0 : Int) (x1 : Int) (x2 : Int) (x3 : Int) (h : MH) : Run (d + 1) 226 0 [.inr (.inr (.inl 97)), .inl x0, .inl x1, .inl x2, .inl x3, vU] [] h = (cI (Run d 227 0 [.inr (.inr (.inl 97)), .inr (.inr (.inl 110)), .inl x0, .inl x1, .inl x2] [] (up h 97 0 0)) fun a2_ h1_ => (if a2_ = 0 then some (some (.inl (-1)), h1_) else (cI (Run d 183 0 [.inr (.inl x3), vU, .inr (.inl 0), vU, .inr (.inl 63), vU] [] h1_) fun a5_ h4_ => (if a5_ = 0 then some (some (.inl (-1)), h4_) else (cI (Run d 217 0 [.inl x0] [] h4_) fun a8_ h7_ => (if 0 ≤ a8_ ∧ a8_ < 277 then (if 0 ≤ (wI (8 + (h7_ 110 a8_.toNat))) ∧ (wI (8 + (h7_ 110 a8_.toNat))) < 277 then (if ¬ (iAnd x3 (iXor (h7_ 110 (wI (8 + (h7_ 110 a8_.toNat))).toNat) (-1))) = 0 then some (some (.inl (-1)), h7_) else (cI (Run d 76 0 [.inl x3] [] h7_) fun a13_ h12_ => (if a13_ ≤ (h12_ 102 3) then (cV (Run d 229 0 [.inr (.inr (.inl 97)), vU] [] h12_) fun h15_ => (cI (Run d 230 0 [.inr (.inr (.inl 97)), .inr (.inr (.inl 110)), .inl x0, .inl x1, .inl x2, .inl x3, vU, vU, vU] [] h15_) fun a17_ h16_ => (if ¬ a17_ = (-1) then some (some (.inl a17_), h16_) else some (some (.inl (-2)), h16_)))) else some (some (.inl (-1)), h12_)))) else none) else none)))))) := by
  refine (R_aload_n zf226_0 rfl zlt_97 rfl).trans ?_
  refine (R_iconst zf226_1 zw_0 rfl).trans ?_
  refine (R_putI zf226_2 zo_226 zfl_12_96 zk1_97 zft_12_0 rfl).trans ?_
  refine (R_aload_n zf226_5 rfl zlt_97 rfl).trans ?_
  refine (R_aload_n zf226_6 rfl zlt_97 rfl).trans ?_
  refine (R_getR zf226_7 zo_226 zfl_12_61 zk1_97 zft_12_32 zmr_97_32 rfl).trans ?_
  refine (R_iload_n zf226_10 rfl rfl).trans ?_
  refine (R_iload_n zf226_11 rfl rfl).trans ?_
  refine (R_iload_n zf226_12 rfl rfl).trans ?_
  refine (R_vcallI zf226_13 zo_226 zvl_12_372 (by rw [zr_227]; rfl) zl_227 (Nat.le_of_ble_eq_true rfl) rfl rfl (Nat.le_of_ble_eq_true rfl) (Nat.le_of_ble_eq_true rfl) (es := [.inr (.inr (.inl 97)), .inr (.inr (.inl 110)), .inl x0, .inl x1, .inl x2]) rfl rfl zk1_97 zo_227).trans ?_
  refine congrArg (cI _) (funext fun a2_ => funext fun h1_ => ?_)
  refine (R_if_eq (t := 71) zf226_16 rfl rfl).trans ?_
  refine ite_congr rfl (fun c3_ => ?_) (fun c3_ => ?_)
  · refine (R_iconst zf226_71 zw_m1 rfl).trans ?_
    exact R_ireturn_i zf226_72 zr_226
  · refine (R_iload zf226_19 rfl rfl).trans ?_
    refine (R_i2l zf226_21 rfl).trans ?_
    refine (R_lconst (v := 0) zf226_22 rfl rfl).trans ?_
    refine (R_ldc2_w zf226_23 zo_226 zll_12_376 rfl).trans ?_
    refine (R_callI zf226_26 zo_226 zsl_12_217 (by rw [zr_183]; rfl) zl_183 (Nat.le_of_ble_eq_true rfl) rfl rfl (Nat.le_of_ble_eq_true rfl) (Nat.le_of_ble_eq_true rfl) (es := [.inr (.inl x3), vU, .inr (.inl 0), vU, .inr (.inl 63), vU]) rfl rfl).trans ?_
    refine congrArg (cI _) (funext fun a5_ => funext fun h4_ => ?_)
    refine (R_if_eq (t := 71) zf226_29 rfl rfl).trans ?_
    refine ite_congr rfl (fun c6_ => ?_) (fun c6_ => ?_)
    · refine (R_iconst zf226_71 zw_m1 rfl).trans ?_
      exact R_ireturn_i zf226_72 zr_226
    · refine (R_iload zf226_32 rfl rfl).trans ?_
      refine (R_aload_n zf226_34 rfl zlt_97 rfl).trans ?_
      refine (R_getR zf226_35 zo_226 zfl_12_61 zk1_97 zft_12_32 zmr_97_32 rfl).trans ?_
      refine (R_bipush zf226_38 zb_8 rfl).trans ?_
      refine (R_aload_n zf226_40 rfl zlt_97 rfl).trans ?_
      refine (R_getR zf226_41 zo_226 zfl_12_61 zk1_97 zft_12_32 zmr_97_32 rfl).trans ?_
      refine (R_iload_n zf226_44 rfl rfl).trans ?_
      refine (R_callI zf226_45 zo_226 zsl_12_300 (by rw [zr_217]; rfl) zl_217 (Nat.le_of_ble_eq_true rfl) rfl rfl (Nat.le_of_ble_eq_true rfl) (Nat.le_of_ble_eq_true rfl) (es := [.inl x0]) rfl rfl).trans ?_
      refine congrArg (cI _) (funext fun a8_ => funext fun h7_ => ?_)
      refine (R_iald zf226_48 zk_110 rfl).trans ?_
      refine ite_congr rfl (fun c9_ => ?_) (fun _ => rfl)
      refine (R_iadd zf226_49 rfl).trans ?_
      refine (R_iald zf226_50 zk_110 rfl).trans ?_
      refine ite_congr rfl (fun c10_ => ?_) (fun _ => rfl)
      refine (R_iconst zf226_51 zw_m1 rfl).trans ?_
      refine (R_ixor zf226_52 rfl).trans ?_
      refine (R_iand zf226_53 rfl).trans ?_
      refine (R_if_ne (t := 71) zf226_54 rfl rfl).trans ?_
      refine ite_congr rfl (fun c11_ => ?_) (fun c11_ => ?_)
      · refine (R_iconst zf226_71 zw_m1 rfl).trans ?_
        exact R_ireturn_i zf226_72 zr_226
      · refine (R_iload zf226_57 rfl rfl).trans ?_
        refine (R_callI zf226_59 zo_226 zsl_12_355 (by rw [zr_76]; rfl) zl_76 (Nat.le_of_ble_eq_true rfl) rfl rfl (Nat.le_of_ble_eq_true rfl) (Nat.le_of_ble_eq_true rfl) (es := [.inl x3]) rfl rfl).trans ?_
        refine congrArg (cI _) (funext fun a13_ => funext fun h12_ => ?_)
        refine (R_aload_n zf226_62 rfl zlt_97 rfl).trans ?_
        refine (R_getR zf226_63 zo_226 zfl_12_37 zk1_97 zft_12_18 zmr_97_18 rfl).trans ?_
        refine (R_iconst zf226_66 zw_3 rfl).trans ?_
        refine (R_ialdc zf226_67 zk_102 (by decide) rfl rfl).trans ?_
        refine (R_icmp_le (t := 73) zf226_68 rfl rfl).trans ?_
        refine ite_congr rfl (fun c14_ => ?_) (fun c14_ => ?_)
        · refine (R_aload_n zf226_73 rfl zlt_97 rfl).trans ?_
          refine (R_vcallV zf226_74 zo_226 zvl_12_378 zr_229 zl_229 (Nat.le_of_ble_eq_true rfl) rfl rfl (Nat.le_of_ble_eq_true rfl) (Nat.le_of_ble_eq_true rfl) (es := [.inr (.inr (.inl 97)), vU]) rfl rfl zk1_97 zo_229).trans ?_
          refine congrArg (cV _) (funext fun h15_ => ?_)
          refine (R_aload_n zf226_77 rfl zlt_97 rfl).trans ?_
          refine (R_aload_n zf226_78 rfl zlt_97 rfl).trans ?_
          refine (R_getR zf226_79 zo_226 zfl_12_61 zk1_97 zft_12_32 zmr_97_32 rfl).trans ?_
          refine (R_iload_n zf226_82 rfl rfl).trans ?_
          refine (R_iload_n zf226_83 rfl rfl).trans ?_
          refine (R_iload_n zf226_84 rfl rfl).trans ?_
          refine (R_iload zf226_85 rfl rfl).trans ?_
          refine (R_vcallI zf226_87 zo_226 zvl_12_381 (by rw [zr_230]; rfl) zl_230 (Nat.le_of_ble_eq_true rfl) rfl rfl (Nat.le_of_ble_eq_true rfl) (Nat.le_of_ble_eq_true rfl) (es := [.inr (.inr (.inl 97)), .inr (.inr (.inl 110)), .inl x0, .inl x1, .inl x2, .inl x3, vU, vU, vU]) rfl rfl zk1_97 zo_230).trans ?_
          refine congrArg (cI _) (funext fun a17_ => funext fun h16_ => ?_)
          refine (R_istore (ls' := [.inr (.inr (.inl 97)), .inl x0, .inl x1, .inl x2, .inl x3, .inl a17_]) zf226_90 (Nat.le_of_ble_eq_true rfl) rfl rfl).trans ?_
          refine (R_iload zf226_92 rfl rfl).trans ?_
          refine (R_iconst zf226_94 zw_m1 rfl).trans ?_
          refine (R_icmp_ne (t := 103) zf226_95 rfl rfl).trans ?_
          refine ite_congr rfl (fun c18_ => ?_) (fun c18_ => ?_)
          · refine (R_iload zf226_103 rfl rfl).trans ?_
            exact R_ireturn_i zf226_105 zr_226
          · refine (R_bipush zf226_98 zb_m2 rfl).trans ?_
            refine (R_goto (t := 105) zf226_100 rfl).trans ?_
            exact R_ireturn_i zf226_105 zr_226
        · refine (R_iconst zf226_71 zw_m1 rfl).trans ?_
          exact R_ireturn_i zf226_72 zr_226
-- CannonPostModel.hear(II)Z at 0
theorem q237_0 (d : Nat) (x0 : Int) (x1 : Int) (h : MH) : Run (d + 1) 237 0 [.inr (.inr (.inl 97)), .inl x0, .inl x1] [] h = (cI (Run d 238 0 [.inr (.inr (.inl 97)), .inr (.inr (.inl 110)), .inl x0, .inl x1] [] (up h 97 0 0)) fun a2_ h1_ => (if ¬ a2_ = 0 then (cV (Run d 229 0 [.inr (.inr (.inl 97)), vU] [] h1_) fun h4_ => (if 0 ≤ (wI (8 + x0)) ∧ (wI (8 + x0)) < 277 then (if 0 ≤ (wI (8 + x0)) ∧ (wI (8 + x0)) < 277 then some (some (.inl 1), (up h4_ 110 (wI (8 + x0)).toNat (iOr (h4_ 110 (wI (8 + x0)).toNat) (iShl 1 x1)))) else none) else none)) else some (some (.inl 0), h1_))) := by
  refine (R_aload_n zf237_0 rfl zlt_97 rfl).trans ?_
  refine (R_iconst zf237_1 zw_0 rfl).trans ?_
  refine (R_putI zf237_2 zo_237 zfl_12_96 zk1_97 zft_12_0 rfl).trans ?_
  refine (R_aload_n zf237_5 rfl zlt_97 rfl).trans ?_
  refine (R_aload_n zf237_6 rfl zlt_97 rfl).trans ?_
  refine (R_getR zf237_7 zo_237 zfl_12_61 zk1_97 zft_12_32 zmr_97_32 rfl).trans ?_
  refine (R_iload_n zf237_10 rfl rfl).trans ?_
  refine (R_iload_n zf237_11 rfl rfl).trans ?_
  refine (R_vcallI zf237_12 zo_237 zvl_12_386 (by rw [zr_238]; rfl) zl_238 (Nat.le_of_ble_eq_true rfl) rfl rfl (Nat.le_of_ble_eq_true rfl) (Nat.le_of_ble_eq_true rfl) (es := [.inr (.inr (.inl 97)), .inr (.inr (.inl 110)), .inl x0, .inl x1]) rfl rfl zk1_97 zo_238).trans ?_
  refine congrArg (cI _) (funext fun a2_ => funext fun h1_ => ?_)
  refine (R_if_ne (t := 20) zf237_15 rfl rfl).trans ?_
  refine ite_congr rfl (fun c3_ => ?_) (fun c3_ => ?_)
  · refine (R_aload_n zf237_20 rfl zlt_97 rfl).trans ?_
    refine (R_vcallV zf237_21 zo_237 zvl_12_378 zr_229 zl_229 (Nat.le_of_ble_eq_true rfl) rfl rfl (Nat.le_of_ble_eq_true rfl) (Nat.le_of_ble_eq_true rfl) (es := [.inr (.inr (.inl 97)), vU]) rfl rfl zk1_97 zo_229).trans ?_
    refine congrArg (cV _) (funext fun h4_ => ?_)
    refine (R_aload_n zf237_24 rfl zlt_97 rfl).trans ?_
    refine (R_getR zf237_25 zo_237 zfl_12_61 zk1_97 zft_12_32 zmr_97_32 rfl).trans ?_
    refine (R_bipush zf237_28 zb_8 rfl).trans ?_
    refine (R_iload_n zf237_30 rfl rfl).trans ?_
    refine (R_iadd zf237_31 rfl).trans ?_
    refine (R_dup2 zf237_32 rfl rfl rfl).trans ?_
    refine (R_iald zf237_33 zk_110 rfl).trans ?_
    refine ite_congr rfl (fun c5_ => ?_) (fun _ => rfl)
    refine (R_iconst zf237_34 zw_1 rfl).trans ?_
    refine (R_iload_n zf237_35 rfl rfl).trans ?_
    refine (R_ishl zf237_36 rfl).trans ?_
    refine (R_ior zf237_37 rfl).trans ?_
    refine (R_iast zf237_38 zk_110 rfl).trans ?_
    refine ite_congr rfl (fun c6_ => ?_) (fun _ => rfl)
    refine (R_iconst zf237_39 zw_1 rfl).trans ?_
    exact R_ireturn zf237_40 (by rw [zr_237]; rfl)
  · refine (R_iconst zf237_18 zw_0 rfl).trans ?_
    exact R_ireturn zf237_19 (by rw [zr_237]; rfl)
-- CannonPostModel.stack(II)I at 0
theorem q239_0 (d : Nat) (x0 : Int) (x1 : Int) (h : MH) : Run (d + 1) 239 0 [.inr (.inr (.inl 97)), .inl x0, .inl x1] [] h = (cI (Run d 220 0 [.inr (.inr (.inl 97)), .inl x0] [] (up h 97 0 0)) fun a2_ h1_ => (if a2_ = 0 then some (some (.inl (-1)), h1_) else (cI (Run d 183 0 [.inr (.inl x1), vU, .inr (.inl 1), vU, .inr (.inl 9), vU] [] h1_) fun a5_ h4_ => (if a5_ = 0 then some (some (.inl (-1)), h4_) else (if 0 ≤ (wI (0 + x0)) ∧ (wI (0 + x0)) < 277 then (if (wI ((h4_ 110 (wI (0 + x0)).toNat) + x1)) ≤ 9 then (cV (Run d 229 0 [.inr (.inr (.inl 97)), vU] [] h4_) fun h9_ => (if 0 ≤ (wI (0 + x0)) ∧ (wI (0 + x0)) < 277 then (if 0 ≤ (wI (0 + x0)) ∧ (wI (0 + x0)) < 277 then (if 0 ≤ (wI (0 + x0)) ∧ (wI (0 + x0)) < 277 then some (some (.inl ((up h9_ 110 (wI (0 + x0)).toNat (wI ((h9_ 110 (wI (0 + x0)).toNat) + x1))) 110 (wI (0 + x0)).toNat)), (up h9_ 110 (wI (0 + x0)).toNat (wI ((h9_ 110 (wI (0 + x0)).toNat) + x1)))) else none) else none) else none)) else some (some (.inl (-1)), h4_)) else none))))) := by
  refine (R_aload_n zf239_0 rfl zlt_97 rfl).trans ?_
  refine (R_iconst zf239_1 zw_0 rfl).trans ?_
  refine (R_putI zf239_2 zo_239 zfl_12_96 zk1_97 zft_12_0 rfl).trans ?_
  refine (R_aload_n zf239_5 rfl zlt_97 rfl).trans ?_
  refine (R_iload_n zf239_6 rfl rfl).trans ?_
  refine (R_vcallI zf239_7 zo_239 zvl_12_362 (by rw [zr_220]; rfl) zl_220 (Nat.le_of_ble_eq_true rfl) rfl rfl (Nat.le_of_ble_eq_true rfl) (Nat.le_of_ble_eq_true rfl) (es := [.inr (.inr (.inl 97)), .inl x0]) rfl rfl zk1_97 zo_220).trans ?_
  refine congrArg (cI _) (funext fun a2_ => funext fun h1_ => ?_)
  refine (R_if_eq (t := 40) zf239_10 rfl rfl).trans ?_
  refine ite_congr rfl (fun c3_ => ?_) (fun c3_ => ?_)
  · refine (R_iconst zf239_40 zw_m1 rfl).trans ?_
    exact R_ireturn_i zf239_41 zr_239
  · refine (R_iload_n zf239_13 rfl rfl).trans ?_
    refine (R_i2l zf239_14 rfl).trans ?_
    refine (R_lconst (v := 1) zf239_15 rfl rfl).trans ?_
    refine (R_ldc2_w zf239_16 zo_239 zll_12_367 rfl).trans ?_
    refine (R_callI zf239_19 zo_239 zsl_12_217 (by rw [zr_183]; rfl) zl_183 (Nat.le_of_ble_eq_true rfl) rfl rfl (Nat.le_of_ble_eq_true rfl) (Nat.le_of_ble_eq_true rfl) (es := [.inr (.inl x1), vU, .inr (.inl 1), vU, .inr (.inl 9), vU]) rfl rfl).trans ?_
    refine congrArg (cI _) (funext fun a5_ => funext fun h4_ => ?_)
    refine (R_if_eq (t := 40) zf239_22 rfl rfl).trans ?_
    refine ite_congr rfl (fun c6_ => ?_) (fun c6_ => ?_)
    · refine (R_iconst zf239_40 zw_m1 rfl).trans ?_
      exact R_ireturn_i zf239_41 zr_239
    · refine (R_aload_n zf239_25 rfl zlt_97 rfl).trans ?_
      refine (R_getR zf239_26 zo_239 zfl_12_61 zk1_97 zft_12_32 zmr_97_32 rfl).trans ?_
      refine (R_iconst zf239_29 zw_0 rfl).trans ?_
      refine (R_iload_n zf239_30 rfl rfl).trans ?_
      refine (R_iadd zf239_31 rfl).trans ?_
      refine (R_iald zf239_32 zk_110 rfl).trans ?_
      refine ite_congr rfl (fun c7_ => ?_) (fun _ => rfl)
      refine (R_iload_n zf239_33 rfl rfl).trans ?_
      refine (R_iadd zf239_34 rfl).trans ?_
      refine (R_bipush zf239_35 zb_9 rfl).trans ?_
      refine (R_icmp_le (t := 42) zf239_37 rfl rfl).trans ?_
      refine ite_congr rfl (fun c8_ => ?_) (fun c8_ => ?_)
      · refine (R_aload_n zf239_42 rfl zlt_97 rfl).trans ?_
        refine (R_vcallV zf239_43 zo_239 zvl_12_378 zr_229 zl_229 (Nat.le_of_ble_eq_true rfl) rfl rfl (Nat.le_of_ble_eq_true rfl) (Nat.le_of_ble_eq_true rfl) (es := [.inr (.inr (.inl 97)), vU]) rfl rfl zk1_97 zo_229).trans ?_
        refine congrArg (cV _) (funext fun h9_ => ?_)
        refine (R_aload_n zf239_46 rfl zlt_97 rfl).trans ?_
        refine (R_getR zf239_47 zo_239 zfl_12_61 zk1_97 zft_12_32 zmr_97_32 rfl).trans ?_
        refine (R_iconst zf239_50 zw_0 rfl).trans ?_
        refine (R_iload_n zf239_51 rfl rfl).trans ?_
        refine (R_iadd zf239_52 rfl).trans ?_
        refine (R_dup2 zf239_53 rfl rfl rfl).trans ?_
        refine (R_iald zf239_54 zk_110 rfl).trans ?_
        refine ite_congr rfl (fun c10_ => ?_) (fun _ => rfl)
        refine (R_iload_n zf239_55 rfl rfl).trans ?_
        refine (R_iadd zf239_56 rfl).trans ?_
        refine (R_iast zf239_57 zk_110 rfl).trans ?_
        refine ite_congr rfl (fun c11_ => ?_) (fun _ => rfl)
        refine (R_aload_n zf239_58 rfl zlt_97 rfl).trans ?_
        refine (R_getR zf239_59 zo_239 zfl_12_61 zk1_97 zft_12_32 zmr_97_32 rfl).trans ?_
        refine (R_iconst zf239_62 zw_0 rfl).trans ?_
        refine (R_iload_n zf239_63 rfl rfl).trans ?_
        refine (R_iadd zf239_64 rfl).trans ?_
        refine (R_iald zf239_65 zk_110 rfl).trans ?_
        refine ite_congr rfl (fun c12_ => ?_) (fun _ => rfl)
        exact R_ireturn_i zf239_66 zr_239
      · refine (R_iconst zf239_40 zw_m1 rfl).trans ?_
        exact R_ireturn_i zf239_41 zr_239
-- CannonPostModel.grind(I)I at 0
theorem q240_0 (d : Nat) (x0 : Int) (h : MH) : Run (d + 1) 240 0 [.inr (.inr (.inl 97)), .inl x0] [] h = (if ((up h 97 0 0) 97 26) = 0 then some (some (.inl (-1)), (up h 97 0 0)) else (cI (Run d 183 0 [.inr (.inl x0), vU, .inr (.inl 1), vU, .inr (.inl 50), vU] [] (up h 97 0 0)) fun a3_ h2_ => (if a3_ = 0 then some (some (.inl (-1)), h2_) else (if (wI ((h2_ 110 31) + x0)) ≤ 99 then (cV (Run d 229 0 [.inr (.inr (.inl 97)), vU] [] h2_) fun h6_ => some (some (.inl ((up h6_ 110 31 (wI ((h6_ 110 31) + x0))) 110 31)), (up h6_ 110 31 (wI ((h6_ 110 31) + x0))))) else some (some (.inl (-1)), h2_))))) := by
  refine (R_aload_n zf240_0 rfl zlt_97 rfl).trans ?_
  refine (R_iconst zf240_1 zw_0 rfl).trans ?_
  refine (R_putI zf240_2 zo_240 zfl_12_96 zk1_97 zft_12_0 rfl).trans ?_
  refine (R_aload_n zf240_5 rfl zlt_97 rfl).trans ?_
  refine (R_getI zf240_6 zo_240 zfl_12_294 zk1_97 zft_12_26 rfl).trans ?_
  refine (R_if_eq (t := 38) zf240_9 rfl rfl).trans ?_
  refine ite_congr rfl (fun c1_ => ?_) (fun c1_ => ?_)
  · refine (R_iconst zf240_38 zw_m1 rfl).trans ?_
    exact R_ireturn_i zf240_39 zr_240
  · refine (R_iload_n zf240_12 rfl rfl).trans ?_
    refine (R_i2l zf240_13 rfl).trans ?_
    refine (R_lconst (v := 1) zf240_14 rfl rfl).trans ?_
    refine (R_ldc2_w zf240_15 zo_240 zll_12_390 rfl).trans ?_
    refine (R_callI zf240_18 zo_240 zsl_12_217 (by rw [zr_183]; rfl) zl_183 (Nat.le_of_ble_eq_true rfl) rfl rfl (Nat.le_of_ble_eq_true rfl) (Nat.le_of_ble_eq_true rfl) (es := [.inr (.inl x0), vU, .inr (.inl 1), vU, .inr (.inl 50), vU]) rfl rfl).trans ?_
    refine congrArg (cI _) (funext fun a3_ => funext fun h2_ => ?_)
    refine (R_if_eq (t := 38) zf240_21 rfl rfl).trans ?_
    refine ite_congr rfl (fun c4_ => ?_) (fun c4_ => ?_)
    · refine (R_iconst zf240_38 zw_m1 rfl).trans ?_
      exact R_ireturn_i zf240_39 zr_240
    · refine (R_aload_n zf240_24 rfl zlt_97 rfl).trans ?_
      refine (R_getR zf240_25 zo_240 zfl_12_61 zk1_97 zft_12_32 zmr_97_32 rfl).trans ?_
      refine (R_bipush zf240_28 zb_31 rfl).trans ?_
      refine (R_ialdc zf240_30 zk_110 (by decide) rfl rfl).trans ?_
      refine (R_iload_n zf240_31 rfl rfl).trans ?_
      refine (R_iadd zf240_32 rfl).trans ?_
      refine (R_bipush zf240_33 zb_99 rfl).trans ?_
      refine (R_icmp_le (t := 40) zf240_35 rfl rfl).trans ?_
      refine ite_congr rfl (fun c5_ => ?_) (fun c5_ => ?_)
      · refine (R_aload_n zf240_40 rfl zlt_97 rfl).trans ?_
        refine (R_vcallV zf240_41 zo_240 zvl_12_378 zr_229 zl_229 (Nat.le_of_ble_eq_true rfl) rfl rfl (Nat.le_of_ble_eq_true rfl) (Nat.le_of_ble_eq_true rfl) (es := [.inr (.inr (.inl 97)), vU]) rfl rfl zk1_97 zo_229).trans ?_
        refine congrArg (cV _) (funext fun h6_ => ?_)
        refine (R_aload_n zf240_44 rfl zlt_97 rfl).trans ?_
        refine (R_getR zf240_45 zo_240 zfl_12_61 zk1_97 zft_12_32 zmr_97_32 rfl).trans ?_
        refine (R_bipush zf240_48 zb_31 rfl).trans ?_
        refine (R_dup2 zf240_50 rfl rfl rfl).trans ?_
        refine (R_ialdc zf240_51 zk_110 (by decide) rfl rfl).trans ?_
        refine (R_iload_n zf240_52 rfl rfl).trans ?_
        refine (R_iadd zf240_53 rfl).trans ?_
        refine (R_iastc zf240_54 zk_110 (by decide) rfl rfl).trans ?_
        refine (R_aload_n zf240_55 rfl zlt_97 rfl).trans ?_
        refine (R_getR zf240_56 zo_240 zfl_12_61 zk1_97 zft_12_32 zmr_97_32 rfl).trans ?_
        refine (R_bipush zf240_59 zb_31 rfl).trans ?_
        refine (R_ialdc zf240_61 zk_110 (by decide) rfl rfl).trans ?_
        exact R_ireturn_i zf240_62 zr_240
      · refine (R_iconst zf240_38 zw_m1 rfl).trans ?_
        exact R_ireturn_i zf240_39 zr_240
-- CannonPostModel.wind(II)Z at 0
theorem q241_0 (d : Nat) (x0 : Int) (x1 : Int) (h : MH) : Run (d + 1) 241 0 [.inr (.inr (.inl 97)), .inl x0, .inl x1] [] h = (cI (Run d 242 0 [.inr (.inr (.inl 97)), .inr (.inr (.inl 110)), .inl x0, .inl x1] [] (up h 97 0 0)) fun a2_ h1_ => (if ¬ a2_ = 0 then (cV (Run d 229 0 [.inr (.inr (.inl 97)), vU] [] h1_) fun h4_ => (cV (Run d 243 0 [.inr (.inr (.inl 110)), .inl x0, .inl x1] [] h4_) fun h5_ => some (some (.inl 1), h5_))) else some (some (.inl 0), h1_))) := by
  refine (R_aload_n zf241_0 rfl zlt_97 rfl).trans ?_
  refine (R_iconst zf241_1 zw_0 rfl).trans ?_
  refine (R_putI zf241_2 zo_241 zfl_12_96 zk1_97 zft_12_0 rfl).trans ?_
  refine (R_aload_n zf241_5 rfl zlt_97 rfl).trans ?_
  refine (R_aload_n zf241_6 rfl zlt_97 rfl).trans ?_
  refine (R_getR zf241_7 zo_241 zfl_12_61 zk1_97 zft_12_32 zmr_97_32 rfl).trans ?_
  refine (R_iload_n zf241_10 rfl rfl).trans ?_
  refine (R_iload_n zf241_11 rfl rfl).trans ?_
  refine (R_vcallI zf241_12 zo_241 zvl_12_392 (by rw [zr_242]; rfl) zl_242 (Nat.le_of_ble_eq_true rfl) rfl rfl (Nat.le_of_ble_eq_true rfl) (Nat.le_of_ble_eq_true rfl) (es := [.inr (.inr (.inl 97)), .inr (.inr (.inl 110)), .inl x0, .inl x1]) rfl rfl zk1_97 zo_242).trans ?_
  refine congrArg (cI _) (funext fun a2_ => funext fun h1_ => ?_)
  refine (R_if_ne (t := 20) zf241_15 rfl rfl).trans ?_
  refine ite_congr rfl (fun c3_ => ?_) (fun c3_ => ?_)
  · refine (R_aload_n zf241_20 rfl zlt_97 rfl).trans ?_
    refine (R_vcallV zf241_21 zo_241 zvl_12_378 zr_229 zl_229 (Nat.le_of_ble_eq_true rfl) rfl rfl (Nat.le_of_ble_eq_true rfl) (Nat.le_of_ble_eq_true rfl) (es := [.inr (.inr (.inl 97)), vU]) rfl rfl zk1_97 zo_229).trans ?_
    refine congrArg (cV _) (funext fun h4_ => ?_)
    refine (R_aload_n zf241_24 rfl zlt_97 rfl).trans ?_
    refine (R_getR zf241_25 zo_241 zfl_12_61 zk1_97 zft_12_32 zmr_97_32 rfl).trans ?_
    refine (R_iload_n zf241_28 rfl rfl).trans ?_
    refine (R_iload_n zf241_29 rfl rfl).trans ?_
    refine (R_callV zf241_30 zo_241 zsl_12_395 zr_243 zl_243 (Nat.le_of_ble_eq_true rfl) rfl rfl (Nat.le_of_ble_eq_true rfl) (Nat.le_of_ble_eq_true rfl) (es := [.inr (.inr (.inl 110)), .inl x0, .inl x1]) rfl rfl).trans ?_
    refine congrArg (cV _) (funext fun h5_ => ?_)
    refine (R_iconst zf241_33 zw_1 rfl).trans ?_
    exact R_ireturn zf241_34 (by rw [zr_241]; rfl)
  · refine (R_iconst zf241_18 zw_0 rfl).trans ?_
    exact R_ireturn zf241_19 (by rw [zr_241]; rfl)
-- CannonPostModel.damp(I)Z at 0
theorem q244_0 (d : Nat) (x0 : Int) (h : MH) : Run (d + 1) 244 0 [.inr (.inr (.inl 97)), .inl x0] [] h = (if ((up h 97 0 0) 97 26) = 0 then some (some (.inl 0), (up h 97 0 0)) else (cI (Run d 183 0 [.inr (.inl x0), vU, .inr (.inl 0), vU, .inr (.inl 9), vU] [] (up h 97 0 0)) fun a3_ h2_ => (if a3_ = 0 then some (some (.inl 0), h2_) else (if ¬ (h2_ 110 34) = x0 then (cV (Run d 229 0 [.inr (.inr (.inl 97)), vU] [] h2_) fun h6_ => some (some (.inl 1), (up h6_ 110 34 x0))) else some (some (.inl 0), h2_))))) := by
  refine (R_aload_n zf244_0 rfl zlt_97 rfl).trans ?_
  refine (R_iconst zf244_1 zw_0 rfl).trans ?_
  refine (R_putI zf244_2 zo_244 zfl_12_96 zk1_97 zft_12_0 rfl).trans ?_
  refine (R_aload_n zf244_5 rfl zlt_97 rfl).trans ?_
  refine (R_getI zf244_6 zo_244 zfl_12_294 zk1_97 zft_12_26 rfl).trans ?_
  refine (R_if_eq (t := 35) zf244_9 rfl rfl).trans ?_
  refine ite_congr rfl (fun c1_ => ?_) (fun c1_ => ?_)
  · refine (R_iconst zf244_35 zw_0 rfl).trans ?_
    exact R_ireturn zf244_36 (by rw [zr_244]; rfl)
  · refine (R_iload_n zf244_12 rfl rfl).trans ?_
    refine (R_i2l zf244_13 rfl).trans ?_
    refine (R_lconst (v := 0) zf244_14 rfl rfl).trans ?_
    refine (R_ldc2_w zf244_15 zo_244 zll_12_367 rfl).trans ?_
    refine (R_callI zf244_18 zo_244 zsl_12_217 (by rw [zr_183]; rfl) zl_183 (Nat.le_of_ble_eq_true rfl) rfl rfl (Nat.le_of_ble_eq_true rfl) (Nat.le_of_ble_eq_true rfl) (es := [.inr (.inl x0), vU, .inr (.inl 0), vU, .inr (.inl 9), vU]) rfl rfl).trans ?_
    refine congrArg (cI _) (funext fun a3_ => funext fun h2_ => ?_)
    refine (R_if_eq (t := 35) zf244_21 rfl rfl).trans ?_
    refine ite_congr rfl (fun c4_ => ?_) (fun c4_ => ?_)
    · refine (R_iconst zf244_35 zw_0 rfl).trans ?_
      exact R_ireturn zf244_36 (by rw [zr_244]; rfl)
    · refine (R_aload_n zf244_24 rfl zlt_97 rfl).trans ?_
      refine (R_getR zf244_25 zo_244 zfl_12_61 zk1_97 zft_12_32 zmr_97_32 rfl).trans ?_
      refine (R_bipush zf244_28 zb_34 rfl).trans ?_
      refine (R_ialdc zf244_30 zk_110 (by decide) rfl rfl).trans ?_
      refine (R_iload_n zf244_31 rfl rfl).trans ?_
      refine (R_icmp_ne (t := 37) zf244_32 rfl rfl).trans ?_
      refine ite_congr rfl (fun c5_ => ?_) (fun c5_ => ?_)
      · refine (R_aload_n zf244_37 rfl zlt_97 rfl).trans ?_
        refine (R_vcallV zf244_38 zo_244 zvl_12_378 zr_229 zl_229 (Nat.le_of_ble_eq_true rfl) rfl rfl (Nat.le_of_ble_eq_true rfl) (Nat.le_of_ble_eq_true rfl) (es := [.inr (.inr (.inl 97)), vU]) rfl rfl zk1_97 zo_229).trans ?_
        refine congrArg (cV _) (funext fun h6_ => ?_)
        refine (R_aload_n zf244_41 rfl zlt_97 rfl).trans ?_
        refine (R_getR zf244_42 zo_244 zfl_12_61 zk1_97 zft_12_32 zmr_97_32 rfl).trans ?_
        refine (R_bipush zf244_45 zb_34 rfl).trans ?_
        refine (R_iload_n zf244_47 rfl rfl).trans ?_
        refine (R_iastc zf244_48 zk_110 (by decide) rfl rfl).trans ?_
        refine (R_iconst zf244_49 zw_1 rfl).trans ?_
        exact R_ireturn zf244_50 (by rw [zr_244]; rfl)
      · refine (R_iconst zf244_35 zw_0 rfl).trans ?_
        exact R_ireturn zf244_36 (by rw [zr_244]; rfl)
-- CannonPostModel.hours(I)I at 0
theorem q245_0 (d : Nat) (x0 : Int) (h : MH) : Run (d + 1) 245 0 [.inr (.inr (.inl 97)), .inl x0, vU] [] h = (cI (Run d 246 0 [.inr (.inr (.inl 97)), .inr (.inr (.inl 110)), .inl x0, .inl 60] [] (up h 97 0 0)) fun a2_ h1_ => (if ¬ a2_ = 0 then Run (d + 1) 245 23 [.inr (.inr (.inl 97)), .inl x0, .inl 0] [] h1_ else some (some (.inl (-1)), h1_))) := by
  refine (R_aload_n zf245_0 rfl zlt_97 rfl).trans ?_
  refine (R_iconst zf245_1 zw_0 rfl).trans ?_
  refine (R_putI zf245_2 zo_245 zfl_12_96 zk1_97 zft_12_0 rfl).trans ?_
  refine (R_aload_n zf245_5 rfl zlt_97 rfl).trans ?_
  refine (R_aload_n zf245_6 rfl zlt_97 rfl).trans ?_
  refine (R_getR zf245_7 zo_245 zfl_12_61 zk1_97 zft_12_32 zmr_97_32 rfl).trans ?_
  refine (R_iload_n zf245_10 rfl rfl).trans ?_
  refine (R_bipush zf245_11 zb_60 rfl).trans ?_
  refine (R_vcallI zf245_13 zo_245 zvl_12_399 (by rw [zr_246]; rfl) zl_246 (Nat.le_of_ble_eq_true rfl) rfl rfl (Nat.le_of_ble_eq_true rfl) (Nat.le_of_ble_eq_true rfl) (es := [.inr (.inr (.inl 97)), .inr (.inr (.inl 110)), .inl x0, .inl 60]) rfl rfl zk1_97 zo_246).trans ?_
  refine congrArg (cI _) (funext fun a2_ => funext fun h1_ => ?_)
  refine (R_if_ne (t := 21) zf245_16 rfl rfl).trans ?_
  refine ite_congr rfl (fun c3_ => ?_) (fun c3_ => ?_)
  · refine (R_iconst zf245_21 zw_0 rfl).trans ?_
    refine (R_istore_n (ls' := [.inr (.inr (.inl 97)), .inl x0, .inl 0]) zf245_22 (Nat.le_of_ble_eq_true rfl) rfl rfl).trans ?_
    rfl
  · refine (R_iconst zf245_19 zw_m1 rfl).trans ?_
    exact R_ireturn_i zf245_20 zr_245
-- CannonPostModel.decades(IJ)I at 0
theorem q248_0 (d : Nat) (x0 : Int) (x1 : Int) (h : MH) : Run (d + 1) 248 0 [.inr (.inr (.inl 97)), .inl x0, .inr (.inl x1), vU, vU, vU, vU, vU, vU] [] h = (cI (Run d 246 0 [.inr (.inr (.inl 97)), .inr (.inr (.inl 110)), .inl x0, .inl 60] [] (up h 97 0 0)) fun a2_ h1_ => (if ¬ a2_ = 0 then Run (d + 1) 248 29 [.inr (.inr (.inl 97)), .inl x0, .inr (.inl x1), vU, .inl 0, vU, vU, vU, vU] [] (up h1_ 97 38 x1) else some (some (.inl (-1)), h1_))) := by
  refine (R_aload_n zf248_0 rfl zlt_97 rfl).trans ?_
  refine (R_iconst zf248_1 zw_0 rfl).trans ?_
  refine (R_putI zf248_2 zo_248 zfl_12_96 zk1_97 zft_12_0 rfl).trans ?_
  refine (R_aload_n zf248_5 rfl zlt_97 rfl).trans ?_
  refine (R_aload_n zf248_6 rfl zlt_97 rfl).trans ?_
  refine (R_getR zf248_7 zo_248 zfl_12_61 zk1_97 zft_12_32 zmr_97_32 rfl).trans ?_
  refine (R_iload_n zf248_10 rfl rfl).trans ?_
  refine (R_bipush zf248_11 zb_60 rfl).trans ?_
  refine (R_vcallI zf248_13 zo_248 zvl_12_399 (by rw [zr_246]; rfl) zl_246 (Nat.le_of_ble_eq_true rfl) rfl rfl (Nat.le_of_ble_eq_true rfl) (Nat.le_of_ble_eq_true rfl) (es := [.inr (.inr (.inl 97)), .inr (.inr (.inl 110)), .inl x0, .inl 60]) rfl rfl zk1_97 zo_246).trans ?_
  refine congrArg (cI _) (funext fun a2_ => funext fun h1_ => ?_)
  refine (R_if_ne (t := 21) zf248_16 rfl rfl).trans ?_
  refine ite_congr rfl (fun c3_ => ?_) (fun c3_ => ?_)
  · refine (R_aload_n zf248_21 rfl zlt_97 rfl).trans ?_
    refine (R_lload_n zf248_22 rfl rfl).trans ?_
    refine (R_putL zf248_23 zo_248 zfl_12_406 zk1_97 zft_12_38 rfl).trans ?_
    refine (R_iconst zf248_26 zw_0 rfl).trans ?_
    refine (R_istore (ls' := [.inr (.inr (.inl 97)), .inl x0, .inr (.inl x1), vU, .inl 0, vU, vU, vU, vU]) zf248_27 (Nat.le_of_ble_eq_true rfl) rfl rfl).trans ?_
    rfl
  · refine (R_iconst zf248_19 zw_m1 rfl).trans ?_
    exact R_ireturn_i zf248_20 zr_248
-- CannonPostModel.undo()I at 0
theorem q251_0 (d : Nat) (h : MH) : Run d 251 0 [.inr (.inr (.inl 97)), vU] [] h = (if ¬ ((up h 97 0 0) 97 37) = 0 then Run d 251 26 [.inr (.inr (.inl 97)), .inl 0] [] (up (up h 97 0 0) 97 37 (wI (((up h 97 0 0) 97 37) - 1))) else some (some (.inl (-1)), (up h 97 0 0))) := by
  refine (R_aload_n zf251_0 rfl zlt_97 rfl).trans ?_
  refine (R_iconst zf251_1 zw_0 rfl).trans ?_
  refine (R_putI zf251_2 zo_251 zfl_12_96 zk1_97 zft_12_0 rfl).trans ?_
  refine (R_aload_n zf251_5 rfl zlt_97 rfl).trans ?_
  refine (R_getI zf251_6 zo_251 zfl_12_309 zk1_97 zft_12_37 rfl).trans ?_
  refine (R_if_ne (t := 14) zf251_9 rfl rfl).trans ?_
  refine ite_congr rfl (fun c1_ => ?_) (fun c1_ => ?_)
  · refine (R_aload_n zf251_14 rfl zlt_97 rfl).trans ?_
    refine (R_dup zf251_15 rfl rfl).trans ?_
    refine (R_getI zf251_16 zo_251 zfl_12_309 zk1_97 zft_12_37 rfl).trans ?_
    refine (R_iconst zf251_19 zw_1 rfl).trans ?_
    refine (R_isub zf251_20 rfl).trans ?_
    refine (R_putI zf251_21 zo_251 zfl_12_309 zk1_97 zft_12_37 rfl).trans ?_
    refine (R_iconst zf251_24 zw_0 rfl).trans ?_
    refine (R_istore_n (ls' := [.inr (.inr (.inl 97)), .inl 0]) zf251_25 (Nat.le_of_ble_eq_true rfl) rfl rfl).trans ?_
    rfl
  · refine (R_iconst zf251_12 zw_m1 rfl).trans ?_
    exact R_ireturn_i zf251_13 zr_251
-- CannonPostModel.log(II)I at 0
theorem q252_0 (d : Nat) (x0 : Int) (x1 : Int) (h : MH) : Run (d + 1) 252 0 [.inr (.inr (.inl 97)), .inl x0, .inl x1] [] h = (cI (Run d 183 0 [.inr (.inl x0), vU, .inr (.inl 0), vU, .inr (.inl (wI (((up h 97 0 0) 110 36) - 1))), vU] [] (up h 97 0 0)) fun a2_ h1_ => (if a2_ = 0 then some (some (.inl (-1000000)), h1_) else (cI (Run d 183 0 [.inr (.inl x1), vU, .inr (.inl 0), vU, .inr (.inl 3), vU] [] h1_) fun a5_ h4_ => (if a5_ = 0 then some (some (.inl (-1000000)), h4_) else (if 0 ≤ (wI ((wI (37 + (wI (4 * (wI ((wI ((h4_ 110 36) - 1)) - x0)))))) + x1)) ∧ (wI ((wI (37 + (wI (4 * (wI ((wI ((h4_ 110 36) - 1)) - x0)))))) + x1)) < 277 then some (some (.inl (h4_ 110 (wI ((wI (37 + (wI (4 * (wI ((wI ((h4_ 110 36) - 1)) - x0)))))) + x1)).toNat)), h4_) else none))))) := by
  refine (R_aload_n zf252_0 rfl zlt_97 rfl).trans ?_
  refine (R_iconst zf252_1 zw_0 rfl).trans ?_
  refine (R_putI zf252_2 zo_252 zfl_12_96 zk1_97 zft_12_0 rfl).trans ?_
  refine (R_iload_n zf252_5 rfl rfl).trans ?_
  refine (R_i2l zf252_6 rfl).trans ?_
  refine (R_lconst (v := 0) zf252_7 rfl rfl).trans ?_
  refine (R_aload_n zf252_8 rfl zlt_97 rfl).trans ?_
  refine (R_getR zf252_9 zo_252 zfl_12_61 zk1_97 zft_12_32 zmr_97_32 rfl).trans ?_
  refine (R_bipush zf252_12 zb_36 rfl).trans ?_
  refine (R_ialdc zf252_14 zk_110 (by decide) rfl rfl).trans ?_
  refine (R_iconst zf252_15 zw_1 rfl).trans ?_
  refine (R_isub zf252_16 rfl).trans ?_
  refine (R_i2l zf252_17 rfl).trans ?_
  refine (R_callI zf252_18 zo_252 zsl_12_217 (by rw [zr_183]; rfl) zl_183 (Nat.le_of_ble_eq_true rfl) rfl rfl (Nat.le_of_ble_eq_true rfl) (Nat.le_of_ble_eq_true rfl) (es := [.inr (.inl x0), vU, .inr (.inl 0), vU, .inr (.inl (wI (((up h 97 0 0) 110 36) - 1))), vU]) rfl rfl).trans ?_
  refine congrArg (cI _) (funext fun a2_ => funext fun h1_ => ?_)
  refine (R_if_eq (t := 62) zf252_21 rfl rfl).trans ?_
  refine ite_congr rfl (fun c3_ => ?_) (fun c3_ => ?_)
  · refine (R_ldc_w zf252_62 zo_252 zcl_12_421 rfl).trans ?_
    exact R_ireturn_i zf252_65 zr_252
  · refine (R_iload_n zf252_24 rfl rfl).trans ?_
    refine (R_i2l zf252_25 rfl).trans ?_
    refine (R_lconst (v := 0) zf252_26 rfl rfl).trans ?_
    refine (R_ldc2_w zf252_27 zo_252 zll_12_365 rfl).trans ?_
    refine (R_callI zf252_30 zo_252 zsl_12_217 (by rw [zr_183]; rfl) zl_183 (Nat.le_of_ble_eq_true rfl) rfl rfl (Nat.le_of_ble_eq_true rfl) (Nat.le_of_ble_eq_true rfl) (es := [.inr (.inl x1), vU, .inr (.inl 0), vU, .inr (.inl 3), vU]) rfl rfl).trans ?_
    refine congrArg (cI _) (funext fun a5_ => funext fun h4_ => ?_)
    refine (R_if_eq (t := 62) zf252_33 rfl rfl).trans ?_
    refine ite_congr rfl (fun c6_ => ?_) (fun c6_ => ?_)
    · refine (R_ldc_w zf252_62 zo_252 zcl_12_421 rfl).trans ?_
      exact R_ireturn_i zf252_65 zr_252
    · refine (R_aload_n zf252_36 rfl zlt_97 rfl).trans ?_
      refine (R_getR zf252_37 zo_252 zfl_12_61 zk1_97 zft_12_32 zmr_97_32 rfl).trans ?_
      refine (R_bipush zf252_40 zb_37 rfl).trans ?_
      refine (R_iconst zf252_42 zw_4 rfl).trans ?_
      refine (R_aload_n zf252_43 rfl zlt_97 rfl).trans ?_
      refine (R_getR zf252_44 zo_252 zfl_12_61 zk1_97 zft_12_32 zmr_97_32 rfl).trans ?_
      refine (R_bipush zf252_47 zb_36 rfl).trans ?_
      refine (R_ialdc zf252_49 zk_110 (by decide) rfl rfl).trans ?_
      refine (R_iconst zf252_50 zw_1 rfl).trans ?_
      refine (R_isub zf252_51 rfl).trans ?_
      refine (R_iload_n zf252_52 rfl rfl).trans ?_
      refine (R_isub zf252_53 rfl).trans ?_
      refine (R_imul zf252_54 rfl).trans ?_
      refine (R_iadd zf252_55 rfl).trans ?_
      refine (R_iload_n zf252_56 rfl rfl).trans ?_
      refine (R_iadd zf252_57 rfl).trans ?_
      refine (R_iald zf252_58 zk_110 rfl).trans ?_
      refine ite_congr rfl (fun c7_ => ?_) (fun _ => rfl)
      refine (R_goto (t := 65) zf252_59 rfl).trans ?_
      exact R_ireturn_i zf252_65 zr_252
-- CannonPostModel.step(III)I at 0
theorem q253_0 (d : Nat) (x0 : Int) (x1 : Int) (x2 : Int) (h : MH) : Run (d + 1) 253 0 [.inr (.inr (.inl 97)), .inl x0, .inl x1, .inl x2] [] h = (cI (Run d 254 0 [.inr (.inr (.inl 97)), .inl x0] [] (up h 97 0 0)) fun a2_ h1_ => (if a2_ = 0 then some (some (.inl (-1000000)), h1_) else (if 0 ≤ x0 ∧ x0 < 5 then (cI (Run d 183 0 [.inr (.inl x1), vU, .inr (.inl 0), vU, .inr (.inl (wI ((h1_ 109 x0.toNat) - 1))), vU] [] h1_) fun a6_ h5_ => (if a6_ = 0 then some (some (.inl (-1000000)), h5_) else (cI (Run d 183 0 [.inr (.inl x2), vU, .inr (.inl 0), vU, .inr (.inl 3), vU] [] h5_) fun a9_ h8_ => (if a9_ = 0 then some (some (.inl (-1000000)), h8_) else (if 0 ≤ (wI ((wI (4 * (wI ((wI (16 * x0)) + x1)))) + x2)) ∧ (wI ((wI (4 * (wI ((wI (16 * x0)) + x1)))) + x2)) < 320 then some (some (.inl (h8_ 108 (wI ((wI (4 * (wI ((wI (16 * x0)) + x1)))) + x2)).toNat)), h8_) else none))))) else none))) := by
  refine (R_aload_n zf253_0 rfl zlt_97 rfl).trans ?_
  refine (R_iconst zf253_1 zw_0 rfl).trans ?_
  refine (R_putI zf253_2 zo_253 zfl_12_96 zk1_97 zft_12_0 rfl).trans ?_
  refine (R_aload_n zf253_5 rfl zlt_97 rfl).trans ?_
  refine (R_iload_n zf253_6 rfl rfl).trans ?_
  refine (R_vcallI zf253_7 zo_253 zvl_12_422 (by rw [zr_254]; rfl) zl_254 (Nat.le_of_ble_eq_true rfl) rfl rfl (Nat.le_of_ble_eq_true rfl) (Nat.le_of_ble_eq_true rfl) (es := [.inr (.inr (.inl 97)), .inl x0]) rfl rfl zk1_97 zo_254).trans ?_
  refine congrArg (cI _) (funext fun a2_ => funext fun h1_ => ?_)
  refine (R_if_eq (t := 61) zf253_10 rfl rfl).trans ?_
  refine ite_congr rfl (fun c3_ => ?_) (fun c3_ => ?_)
  · refine (R_ldc_w zf253_61 zo_253 zcl_12_421 rfl).trans ?_
    exact R_ireturn_i zf253_64 zr_253
  · refine (R_iload_n zf253_13 rfl rfl).trans ?_
    refine (R_i2l zf253_14 rfl).trans ?_
    refine (R_lconst (v := 0) zf253_15 rfl rfl).trans ?_
    refine (R_aload_n zf253_16 rfl zlt_97 rfl).trans ?_
    refine (R_getR zf253_17 zo_253 zfl_12_58 zk1_97 zft_12_25 zmr_97_25 rfl).trans ?_
    refine (R_iload_n zf253_20 rfl rfl).trans ?_
    refine (R_iald zf253_21 zk_109 rfl).trans ?_
    refine ite_congr rfl (fun c4_ => ?_) (fun _ => rfl)
    refine (R_iconst zf253_22 zw_1 rfl).trans ?_
    refine (R_isub zf253_23 rfl).trans ?_
    refine (R_i2l zf253_24 rfl).trans ?_
    refine (R_callI zf253_25 zo_253 zsl_12_217 (by rw [zr_183]; rfl) zl_183 (Nat.le_of_ble_eq_true rfl) rfl rfl (Nat.le_of_ble_eq_true rfl) (Nat.le_of_ble_eq_true rfl) (es := [.inr (.inl x1), vU, .inr (.inl 0), vU, .inr (.inl (wI ((h1_ 109 x0.toNat) - 1))), vU]) rfl rfl).trans ?_
    refine congrArg (cI _) (funext fun a6_ => funext fun h5_ => ?_)
    refine (R_if_eq (t := 61) zf253_28 rfl rfl).trans ?_
    refine ite_congr rfl (fun c7_ => ?_) (fun c7_ => ?_)
    · refine (R_ldc_w zf253_61 zo_253 zcl_12_421 rfl).trans ?_
      exact R_ireturn_i zf253_64 zr_253
    · refine (R_iload_n zf253_31 rfl rfl).trans ?_
      refine (R_i2l zf253_32 rfl).trans ?_
      refine (R_lconst (v := 0) zf253_33 rfl rfl).trans ?_
      refine (R_ldc2_w zf253_34 zo_253 zll_12_365 rfl).trans ?_
      refine (R_callI zf253_37 zo_253 zsl_12_217 (by rw [zr_183]; rfl) zl_183 (Nat.le_of_ble_eq_true rfl) rfl rfl (Nat.le_of_ble_eq_true rfl) (Nat.le_of_ble_eq_true rfl) (es := [.inr (.inl x2), vU, .inr (.inl 0), vU, .inr (.inl 3), vU]) rfl rfl).trans ?_
      refine congrArg (cI _) (funext fun a9_ => funext fun h8_ => ?_)
      refine (R_if_eq (t := 61) zf253_40 rfl rfl).trans ?_
      refine ite_congr rfl (fun c10_ => ?_) (fun c10_ => ?_)
      · refine (R_ldc_w zf253_61 zo_253 zcl_12_421 rfl).trans ?_
        exact R_ireturn_i zf253_64 zr_253
      · refine (R_aload_n zf253_43 rfl zlt_97 rfl).trans ?_
        refine (R_getR zf253_44 zo_253 zfl_12_55 zk1_97 zft_12_24 zmr_97_24 rfl).trans ?_
        refine (R_iconst zf253_47 zw_4 rfl).trans ?_
        refine (R_bipush zf253_48 zb_16 rfl).trans ?_
        refine (R_iload_n zf253_50 rfl rfl).trans ?_
        refine (R_imul zf253_51 rfl).trans ?_
        refine (R_iload_n zf253_52 rfl rfl).trans ?_
        refine (R_iadd zf253_53 rfl).trans ?_
        refine (R_imul zf253_54 rfl).trans ?_
        refine (R_iload_n zf253_55 rfl rfl).trans ?_
        refine (R_iadd zf253_56 rfl).trans ?_
        refine (R_iald zf253_57 zk_108 rfl).trans ?_
        refine ite_congr rfl (fun c11_ => ?_) (fun _ => rfl)
        refine (R_goto (t := 64) zf253_58 rfl).trans ?_
        exact R_ireturn_i zf253_64 zr_253
-- CannonPostModel.run(II)I at 0
theorem q255_0 (d : Nat) (x0 : Int) (x1 : Int) (h : MH) : Run (d + 1) 255 0 [.inr (.inr (.inl 97)), .inl x0, .inl x1, vU, vU, vU] [] h = (cI (Run d 254 0 [.inr (.inr (.inl 97)), .inl x0] [] (up h 97 0 0)) fun a2_ h1_ => (if a2_ = 0 then some (some (.inl (-1000000)), h1_) else (if (h1_ 97 26) = 0 then some (some (.inl (-1000000)), h1_) else (cI (Run d 183 0 [.inr (.inl x1), vU, .inr (.inl 0), vU, .inr (.inl 1), vU] [] h1_) fun a6_ h5_ => (if ¬ a6_ = 0 then (cV (Run d 256 0 [.inr (.inr (.inl 110)), .inr (.inr (.inl 111)), vU, vU] [] h5_) fun h8_ => Run (d + 1) 255 47 [.inr (.inr (.inl 97)), .inl x0, .inl x1, .inl 0, vU, vU] [] h8_) else some (some (.inl (-1000000)), h5_)))))) := by
  refine (R_aload_n zf255_0 rfl zlt_97 rfl).trans ?_
  refine (R_iconst zf255_1 zw_0 rfl).trans ?_
  refine (R_putI zf255_2 zo_255 zfl_12_96 zk1_97 zft_12_0 rfl).trans ?_
  refine (R_aload_n zf255_5 rfl zlt_97 rfl).trans ?_
  refine (R_iload_n zf255_6 rfl rfl).trans ?_
  refine (R_vcallI zf255_7 zo_255 zvl_12_422 (by rw [zr_254]; rfl) zl_254 (Nat.le_of_ble_eq_true rfl) rfl rfl (Nat.le_of_ble_eq_true rfl) (Nat.le_of_ble_eq_true rfl) (es := [.inr (.inr (.inl 97)), .inl x0]) rfl rfl zk1_97 zo_254).trans ?_
  refine congrArg (cI _) (funext fun a2_ => funext fun h1_ => ?_)
  refine (R_if_eq (t := 30) zf255_10 rfl rfl).trans ?_
  refine ite_congr rfl (fun c3_ => ?_) (fun c3_ => ?_)
  · refine (R_ldc_w zf255_30 zo_255 zcl_12_421 rfl).trans ?_
    exact R_ireturn_i zf255_33 zr_255
  · refine (R_aload_n zf255_13 rfl zlt_97 rfl).trans ?_
    refine (R_getI zf255_14 zo_255 zfl_12_294 zk1_97 zft_12_26 rfl).trans ?_
    refine (R_if_eq (t := 30) zf255_17 rfl rfl).trans ?_
    refine ite_congr rfl (fun c4_ => ?_) (fun c4_ => ?_)
    · refine (R_ldc_w zf255_30 zo_255 zcl_12_421 rfl).trans ?_
      exact R_ireturn_i zf255_33 zr_255
    · refine (R_iload_n zf255_20 rfl rfl).trans ?_
      refine (R_i2l zf255_21 rfl).trans ?_
      refine (R_lconst (v := 0) zf255_22 rfl rfl).trans ?_
      refine (R_lconst (v := 1) zf255_23 rfl rfl).trans ?_
      refine (R_callI zf255_24 zo_255 zsl_12_217 (by rw [zr_183]; rfl) zl_183 (Nat.le_of_ble_eq_true rfl) rfl rfl (Nat.le_of_ble_eq_true rfl) (Nat.le_of_ble_eq_true rfl) (es := [.inr (.inl x1), vU, .inr (.inl 0), vU, .inr (.inl 1), vU]) rfl rfl).trans ?_
      refine congrArg (cI _) (funext fun a6_ => funext fun h5_ => ?_)
      refine (R_if_ne (t := 34) zf255_27 rfl rfl).trans ?_
      refine ite_congr rfl (fun c7_ => ?_) (fun c7_ => ?_)
      · refine (R_aload_n zf255_34 rfl zlt_97 rfl).trans ?_
        refine (R_getR zf255_35 zo_255 zfl_12_61 zk1_97 zft_12_32 zmr_97_32 rfl).trans ?_
        refine (R_aload_n zf255_38 rfl zlt_97 rfl).trans ?_
        refine (R_getR zf255_39 zo_255 zfl_12_64 zk1_97 zft_12_33 zmr_97_33 rfl).trans ?_
        refine (R_callV zf255_42 zo_255 zsl_12_425 zr_256 zl_256 (Nat.le_of_ble_eq_true rfl) rfl rfl (Nat.le_of_ble_eq_true rfl) (Nat.le_of_ble_eq_true rfl) (es := [.inr (.inr (.inl 110)), .inr (.inr (.inl 111)), vU, vU]) rfl rfl).trans ?_
        refine congrArg (cV _) (funext fun h8_ => ?_)
        refine (R_iconst zf255_45 zw_0 rfl).trans ?_
        refine (R_istore_n (ls' := [.inr (.inr (.inl 97)), .inl x0, .inl x1, .inl 0, vU, vU]) zf255_46 (Nat.le_of_ble_eq_true rfl) rfl rfl).trans ?_
        rfl
      · refine (R_ldc_w zf255_30 zo_255 zcl_12_421 rfl).trans ?_
        exact R_ireturn_i zf255_33 zr_255
-- CannonPostModel.perform(I)I at 0
theorem q260_0 (d : Nat) (x0 : Int) (h : MH) : Run (d + 1) 260 0 [.inr (.inr (.inl 97)), .inl x0, vU, vU, vU] [] h = (cI (Run d 254 0 [.inr (.inr (.inl 97)), .inl x0] [] (up h 97 0 0)) fun a2_ h1_ => (if a2_ = 0 then some (some (.inl (-1)), h1_) else (if ¬ (h1_ 97 26) = 0 then Run (d + 1) 260 24 [.inr (.inr (.inl 97)), .inl x0, .inl 0, vU, vU] [] h1_ else some (some (.inl (-1)), h1_)))) := by
  refine (R_aload_n zf260_0 rfl zlt_97 rfl).trans ?_
  refine (R_iconst zf260_1 zw_0 rfl).trans ?_
  refine (R_putI zf260_2 zo_260 zfl_12_96 zk1_97 zft_12_0 rfl).trans ?_
  refine (R_aload_n zf260_5 rfl zlt_97 rfl).trans ?_
  refine (R_iload_n zf260_6 rfl rfl).trans ?_
  refine (R_vcallI zf260_7 zo_260 zvl_12_422 (by rw [zr_254]; rfl) zl_254 (Nat.le_of_ble_eq_true rfl) rfl rfl (Nat.le_of_ble_eq_true rfl) (Nat.le_of_ble_eq_true rfl) (es := [.inr (.inr (.inl 97)), .inl x0]) rfl rfl zk1_97 zo_254).trans ?_
  refine congrArg (cI _) (funext fun a2_ => funext fun h1_ => ?_)
  refine (R_if_eq (t := 20) zf260_10 rfl rfl).trans ?_
  refine ite_congr rfl (fun c3_ => ?_) (fun c3_ => ?_)
  · refine (R_iconst zf260_20 zw_m1 rfl).trans ?_
    exact R_ireturn_i zf260_21 zr_260
  · refine (R_aload_n zf260_13 rfl zlt_97 rfl).trans ?_
    refine (R_getI zf260_14 zo_260 zfl_12_294 zk1_97 zft_12_26 rfl).trans ?_
    refine (R_if_ne (t := 22) zf260_17 rfl rfl).trans ?_
    refine ite_congr rfl (fun c4_ => ?_) (fun c4_ => ?_)
    · refine (R_iconst zf260_22 zw_0 rfl).trans ?_
      refine (R_istore_n (ls' := [.inr (.inr (.inl 97)), .inl x0, .inl 0, vU, vU]) zf260_23 (Nat.le_of_ble_eq_true rfl) rfl rfl).trans ?_
      rfl
    · refine (R_iconst zf260_20 zw_m1 rfl).trans ?_
      exact R_ireturn_i zf260_21 zr_260
-- CannonPostModel.lands(IIIII)I at 0
theorem q261_0 (d : Nat) (x0 : Int) (x1 : Int) (x2 : Int) (x3 : Int) (x4 : Int) (h : MH) : Run (d + 1) 261 0 [.inr (.inr (.inl 97)), .inl x0, .inl x1, .inl x2, .inl x3, .inl x4, vU] [] h = (cI (Run d 262 0 [.inr (.inr (.inl 97)), .inl x0, .inl x1, .inl x2, .inl x3] [] (up h 97 0 0)) fun a2_ h1_ => (if a2_ = 0 then some (some (.inl (-1000000)), h1_) else (cI (Run d 183 0 [.inr (.inl x4), vU, .inr (.inl 0), vU, .inr (.inl 1), vU] [] h1_) fun a5_ h4_ => (if ¬ a5_ = 0 then (cI (Run d 231 0 [.inr (.inr (.inl 97)), .inr (.inr (.inl 110)), .inl x0, .inl x1, .inl x2, .inl x3] [] h4_) fun a8_ h7_ => (if ¬ x4 = 1 then (cI (Run d 235 0 [.inr (.inr (.inl 97)), .inl a8_, vU] [] h7_) fun a11_ h10_ => some (some (.inl a11_), h10_)) else some (some (.inl a8_), h7_))) else some (some (.inl (-1000000)), h4_))))) := by
  refine (R_aload_n zf261_0 rfl zlt_97 rfl).trans ?_
  refine (R_iconst zf261_1 zw_0 rfl).trans ?_
  refine (R_putI zf261_2 zo_261 zfl_12_96 zk1_97 zft_12_0 rfl).trans ?_
  refine (R_aload_n zf261_5 rfl zlt_97 rfl).trans ?_
  refine (R_iload_n zf261_6 rfl rfl).trans ?_
  refine (R_iload_n zf261_7 rfl rfl).trans ?_
  refine (R_iload_n zf261_8 rfl rfl).trans ?_
  refine (R_iload zf261_9 rfl rfl).trans ?_
  refine (R_vcallI zf261_11 zo_261 zvl_12_439 (by rw [zr_262]; rfl) zl_262 (Nat.le_of_ble_eq_true rfl) rfl rfl (Nat.le_of_ble_eq_true rfl) (Nat.le_of_ble_eq_true rfl) (es := [.inr (.inr (.inl 97)), .inl x0, .inl x1, .inl x2, .inl x3]) rfl rfl zk1_97 zo_262).trans ?_
  refine congrArg (cI _) (funext fun a2_ => funext fun h1_ => ?_)
  refine (R_if_eq (t := 28) zf261_14 rfl rfl).trans ?_
  refine ite_congr rfl (fun c3_ => ?_) (fun c3_ => ?_)
  · refine (R_ldc_w zf261_28 zo_261 zcl_12_421 rfl).trans ?_
    exact R_ireturn_i zf261_31 zr_261
  · refine (R_iload zf261_17 rfl rfl).trans ?_
    refine (R_i2l zf261_19 rfl).trans ?_
    refine (R_lconst (v := 0) zf261_20 rfl rfl).trans ?_
    refine (R_lconst (v := 1) zf261_21 rfl rfl).trans ?_
    refine (R_callI zf261_22 zo_261 zsl_12_217 (by rw [zr_183]; rfl) zl_183 (Nat.le_of_ble_eq_true rfl) rfl rfl (Nat.le_of_ble_eq_true rfl) (Nat.le_of_ble_eq_true rfl) (es := [.inr (.inl x4), vU, .inr (.inl 0), vU, .inr (.inl 1), vU]) rfl rfl).trans ?_
    refine congrArg (cI _) (funext fun a5_ => funext fun h4_ => ?_)
    refine (R_if_ne (t := 32) zf261_25 rfl rfl).trans ?_
    refine ite_congr rfl (fun c6_ => ?_) (fun c6_ => ?_)
    · refine (R_aload_n zf261_32 rfl zlt_97 rfl).trans ?_
      refine (R_aload_n zf261_33 rfl zlt_97 rfl).trans ?_
      refine (R_getR zf261_34 zo_261 zfl_12_61 zk1_97 zft_12_32 zmr_97_32 rfl).trans ?_
      refine (R_iload_n zf261_37 rfl rfl).trans ?_
      refine (R_iload_n zf261_38 rfl rfl).trans ?_
      refine (R_iload_n zf261_39 rfl rfl).trans ?_
      refine (R_iload zf261_40 rfl rfl).trans ?_
      refine (R_vcallI zf261_42 zo_261 zvl_12_348 (by rw [zr_231]; rfl) zl_231 (Nat.le_of_ble_eq_true rfl) rfl rfl (Nat.le_of_ble_eq_true rfl) (Nat.le_of_ble_eq_true rfl) (es := [.inr (.inr (.inl 97)), .inr (.inr (.inl 110)), .inl x0, .inl x1, .inl x2, .inl x3]) rfl rfl zk1_97 zo_231).trans ?_
      refine congrArg (cI _) (funext fun a8_ => funext fun h7_ => ?_)
      refine (R_istore (ls' := [.inr (.inr (.inl 97)), .inl x0, .inl x1, .inl x2, .inl x3, .inl x4, .inl a8_]) zf261_45 (Nat.le_of_ble_eq_true rfl) rfl rfl).trans ?_
      refine (R_iload zf261_47 rfl rfl).trans ?_
      refine (R_iconst zf261_49 zw_1 rfl).trans ?_
      refine (R_icmp_ne (t := 58) zf261_50 rfl rfl).trans ?_
      refine ite_congr rfl (fun c9_ => ?_) (fun c9_ => ?_)
      · refine (R_aload_n zf261_58 rfl zlt_97 rfl).trans ?_
        refine (R_iload zf261_59 rfl rfl).trans ?_
        refine (R_vcallI zf261_61 zo_261 zvl_12_352 (by rw [zr_235]; rfl) zl_235 (Nat.le_of_ble_eq_true rfl) rfl rfl (Nat.le_of_ble_eq_true rfl) (Nat.le_of_ble_eq_true rfl) (es := [.inr (.inr (.inl 97)), .inl a8_, vU]) rfl rfl zk1_97 zo_235).trans ?_
        refine congrArg (cI _) (funext fun a11_ => funext fun h10_ => ?_)
        exact R_ireturn_i zf261_64 zr_261
      · refine (R_iload zf261_53 rfl rfl).trans ?_
        refine (R_goto (t := 64) zf261_55 rfl).trans ?_
        exact R_ireturn_i zf261_64 zr_261
    · refine (R_ldc_w zf261_28 zo_261 zcl_12_421 rfl).trans ?_
      exact R_ireturn_i zf261_31 zr_261
-- CannonPostModel.aim(III)I at 0
theorem q263_0 (d : Nat) (x0 : Int) (x1 : Int) (x2 : Int) (h : MH) : Run (d + 1) 263 0 [.inr (.inr (.inl 97)), .inl x0, .inl x1, .inl x2] [] h = (cI (Run d 222 0 [.inr (.inr (.inl 97)), .inl x0] [] (up h 97 0 0)) fun a2_ h1_ => (if a2_ = 0 then some (some (.inl (-1)), h1_) else (cI (Run d 220 0 [.inr (.inr (.inl 97)), .inl x1] [] h1_) fun a5_ h4_ => (if a5_ = 0 then some (some (.inl (-1)), h4_) else (cI (Run d 220 0 [.inr (.inr (.inl 97)), .inl x2] [] h4_) fun a8_ h7_ => (if a8_ = 0 then some (some (.inl (-1)), h7_) else (if ¬ x1 = x2 then (cV (Run d 264 0 [.inr (.inr (.inl 97)), .inl x0, vU, vU, vU, vU] [] h7_) fun h11_ => (cI (Run d 265 0 [.inr (.inr (.inl 97)), .inl x0, .inl x1, .inl x2] [] h11_) fun a13_ h12_ => (if ¬ a13_ = 0 then (cI (Run d 265 0 [.inr (.inr (.inl 97)), .inl x0, .inl x1, .inl x2] [] h12_) fun a16_ h15_ => some (some (.inl a16_), h15_)) else some (some (.inl (-1)), h12_)))) else some (some (.inl (-1)), h7_)))))))) := by
  refine (R_aload_n zf263_0 rfl zlt_97 rfl).trans ?_
  refine (R_iconst zf263_1 zw_0 rfl).trans ?_
  refine (R_putI zf263_2 zo_263 zfl_12_96 zk1_97 zft_12_0 rfl).trans ?_
  refine (R_aload_n zf263_5 rfl zlt_97 rfl).trans ?_
  refine (R_iload_n zf263_6 rfl rfl).trans ?_
  refine (R_vcallI zf263_7 zo_263 zvl_12_339 (by rw [zr_222]; rfl) zl_222 (Nat.le_of_ble_eq_true rfl) rfl rfl (Nat.le_of_ble_eq_true rfl) (Nat.le_of_ble_eq_true rfl) (es := [.inr (.inr (.inl 97)), .inl x0]) rfl rfl zk1_97 zo_222).trans ?_
  refine congrArg (cI _) (funext fun a2_ => funext fun h1_ => ?_)
  refine (R_if_eq (t := 34) zf263_10 rfl rfl).trans ?_
  refine ite_congr rfl (fun c3_ => ?_) (fun c3_ => ?_)
  · refine (R_iconst zf263_34 zw_m1 rfl).trans ?_
    exact R_ireturn_i zf263_35 zr_263
  · refine (R_aload_n zf263_13 rfl zlt_97 rfl).trans ?_
    refine (R_iload_n zf263_14 rfl rfl).trans ?_
    refine (R_vcallI zf263_15 zo_263 zvl_12_362 (by rw [zr_220]; rfl) zl_220 (Nat.le_of_ble_eq_true rfl) rfl rfl (Nat.le_of_ble_eq_true rfl) (Nat.le_of_ble_eq_true rfl) (es := [.inr (.inr (.inl 97)), .inl x1]) rfl rfl zk1_97 zo_220).trans ?_
    refine congrArg (cI _) (funext fun a5_ => funext fun h4_ => ?_)
    refine (R_if_eq (t := 34) zf263_18 rfl rfl).trans ?_
    refine ite_congr rfl (fun c6_ => ?_) (fun c6_ => ?_)
    · refine (R_iconst zf263_34 zw_m1 rfl).trans ?_
      exact R_ireturn_i zf263_35 zr_263
    · refine (R_aload_n zf263_21 rfl zlt_97 rfl).trans ?_
      refine (R_iload_n zf263_22 rfl rfl).trans ?_
      refine (R_vcallI zf263_23 zo_263 zvl_12_362 (by rw [zr_220]; rfl) zl_220 (Nat.le_of_ble_eq_true rfl) rfl rfl (Nat.le_of_ble_eq_true rfl) (Nat.le_of_ble_eq_true rfl) (es := [.inr (.inr (.inl 97)), .inl x2]) rfl rfl zk1_97 zo_220).trans ?_
      refine congrArg (cI _) (funext fun a8_ => funext fun h7_ => ?_)
      refine (R_if_eq (t := 34) zf263_26 rfl rfl).trans ?_
      refine ite_congr rfl (fun c9_ => ?_) (fun c9_ => ?_)
      · refine (R_iconst zf263_34 zw_m1 rfl).trans ?_
        exact R_ireturn_i zf263_35 zr_263
      · refine (R_iload_n zf263_29 rfl rfl).trans ?_
        refine (R_iload_n zf263_30 rfl rfl).trans ?_
        refine (R_icmp_ne (t := 36) zf263_31 rfl rfl).trans ?_
        refine ite_congr rfl (fun c10_ => ?_) (fun c10_ => ?_)
        · refine (R_aload_n zf263_36 rfl zlt_97 rfl).trans ?_
          refine (R_iload_n zf263_37 rfl rfl).trans ?_
          refine (R_vcallV zf263_38 zo_263 zvl_12_443 zr_264 zl_264 (Nat.le_of_ble_eq_true rfl) rfl rfl (Nat.le_of_ble_eq_true rfl) (Nat.le_of_ble_eq_true rfl) (es := [.inr (.inr (.inl 97)), .inl x0, vU, vU, vU, vU]) rfl rfl zk1_97 zo_264).trans ?_
          refine congrArg (cV _) (funext fun h11_ => ?_)
          refine (R_aload_n zf263_41 rfl zlt_97 rfl).trans ?_
          refine (R_iload_n zf263_42 rfl rfl).trans ?_
          refine (R_iload_n zf263_43 rfl rfl).trans ?_
          refine (R_iload_n zf263_44 rfl rfl).trans ?_
          refine (R_vcallI zf263_45 zo_263 zvl_12_446 (by rw [zr_265]; rfl) zl_265 (Nat.le_of_ble_eq_true rfl) rfl rfl (Nat.le_of_ble_eq_true rfl) (Nat.le_of_ble_eq_true rfl) (es := [.inr (.inr (.inl 97)), .inl x0, .inl x1, .inl x2]) rfl rfl zk1_97 zo_265).trans ?_
          refine congrArg (cI _) (funext fun a13_ => funext fun h12_ => ?_)
          refine (R_if_ne (t := 55) zf263_48 rfl rfl).trans ?_
          refine ite_congr rfl (fun c14_ => ?_) (fun c14_ => ?_)
          · refine (R_aload_n zf263_55 rfl zlt_97 rfl).trans ?_
            refine (R_iload_n zf263_56 rfl rfl).trans ?_
            refine (R_iload_n zf263_57 rfl rfl).trans ?_
            refine (R_iload_n zf263_58 rfl rfl).trans ?_
            refine (R_vcallI zf263_59 zo_263 zvl_12_446 (by rw [zr_265]; rfl) zl_265 (Nat.le_of_ble_eq_true rfl) rfl rfl (Nat.le_of_ble_eq_true rfl) (Nat.le_of_ble_eq_true rfl) (es := [.inr (.inr (.inl 97)), .inl x0, .inl x1, .inl x2]) rfl rfl zk1_97 zo_265).trans ?_
            refine congrArg (cI _) (funext fun a16_ => funext fun h15_ => ?_)
            exact R_ireturn_i zf263_62 zr_263
          · refine (R_iconst zf263_51 zw_m1 rfl).trans ?_
            refine (R_goto (t := 62) zf263_52 rfl).trans ?_
            exact R_ireturn_i zf263_62 zr_263
        · refine (R_iconst zf263_34 zw_m1 rfl).trans ?_
          exact R_ireturn_i zf263_35 zr_263
-- CannonPostModel.route(IIII)I at 0
theorem q266_0 (d : Nat) (x0 : Int) (x1 : Int) (x2 : Int) (x3 : Int) (h : MH) : Run (d + 1) 266 0 [.inr (.inr (.inl 97)), .inl x0, .inl x1, .inl x2, .inl x3] [] h = (cI (Run d 222 0 [.inr (.inr (.inl 97)), .inl x0] [] (up h 97 0 0)) fun a2_ h1_ => (if a2_ = 0 then some (some (.inl (-1)), h1_) else (cI (Run d 220 0 [.inr (.inr (.inl 97)), .inl x1] [] h1_) fun a5_ h4_ => (if a5_ = 0 then some (some (.inl (-1)), h4_) else (cI (Run d 220 0 [.inr (.inr (.inl 97)), .inl x2] [] h4_) fun a8_ h7_ => (if a8_ = 0 then some (some (.inl (-1)), h7_) else (cI (Run d 183 0 [.inr (.inl x3), vU, .inr (.inl 0), vU, .inr (.inl 1), vU] [] h7_) fun a11_ h10_ => (if a11_ = 0 then some (some (.inl (-1)), h10_) else (cI (Run d 267 0 [.inr (.inr (.inl 97)), .inl x0, .inl x1, .inl x2] [] h10_) fun a14_ h13_ => (if ¬ a14_ = 0 then (if ¬ x3 = 0 then some (some (.inl (h13_ 97 41)), h13_) else some (some (.inl (h13_ 97 42)), h13_)) else some (some (.inl (-1)), h13_))))))))))) := by
  refine (R_aload_n zf266_0 rfl zlt_97 rfl).trans ?_
  refine (R_iconst zf266_1 zw_0 rfl).trans ?_
  refine (R_putI zf266_2 zo_266 zfl_12_96 zk1_97 zft_12_0 rfl).trans ?_
  refine (R_aload_n zf266_5 rfl zlt_97 rfl).trans ?_
  refine (R_iload_n zf266_6 rfl rfl).trans ?_
  refine (R_vcallI zf266_7 zo_266 zvl_12_339 (by rw [zr_222]; rfl) zl_222 (Nat.le_of_ble_eq_true rfl) rfl rfl (Nat.le_of_ble_eq_true rfl) (Nat.le_of_ble_eq_true rfl) (es := [.inr (.inr (.inl 97)), .inl x0]) rfl rfl zk1_97 zo_222).trans ?_
  refine congrArg (cI _) (funext fun a2_ => funext fun h1_ => ?_)
  refine (R_if_eq (t := 50) zf266_10 rfl rfl).trans ?_
  refine ite_congr rfl (fun c3_ => ?_) (fun c3_ => ?_)
  · refine (R_iconst zf266_50 zw_m1 rfl).trans ?_
    exact R_ireturn_i zf266_51 zr_266
  · refine (R_aload_n zf266_13 rfl zlt_97 rfl).trans ?_
    refine (R_iload_n zf266_14 rfl rfl).trans ?_
    refine (R_vcallI zf266_15 zo_266 zvl_12_362 (by rw [zr_220]; rfl) zl_220 (Nat.le_of_ble_eq_true rfl) rfl rfl (Nat.le_of_ble_eq_true rfl) (Nat.le_of_ble_eq_true rfl) (es := [.inr (.inr (.inl 97)), .inl x1]) rfl rfl zk1_97 zo_220).trans ?_
    refine congrArg (cI _) (funext fun a5_ => funext fun h4_ => ?_)
    refine (R_if_eq (t := 50) zf266_18 rfl rfl).trans ?_
    refine ite_congr rfl (fun c6_ => ?_) (fun c6_ => ?_)
    · refine (R_iconst zf266_50 zw_m1 rfl).trans ?_
      exact R_ireturn_i zf266_51 zr_266
    · refine (R_aload_n zf266_21 rfl zlt_97 rfl).trans ?_
      refine (R_iload_n zf266_22 rfl rfl).trans ?_
      refine (R_vcallI zf266_23 zo_266 zvl_12_362 (by rw [zr_220]; rfl) zl_220 (Nat.le_of_ble_eq_true rfl) rfl rfl (Nat.le_of_ble_eq_true rfl) (Nat.le_of_ble_eq_true rfl) (es := [.inr (.inr (.inl 97)), .inl x2]) rfl rfl zk1_97 zo_220).trans ?_
      refine congrArg (cI _) (funext fun a8_ => funext fun h7_ => ?_)
      refine (R_if_eq (t := 50) zf266_26 rfl rfl).trans ?_
      refine ite_congr rfl (fun c9_ => ?_) (fun c9_ => ?_)
      · refine (R_iconst zf266_50 zw_m1 rfl).trans ?_
        exact R_ireturn_i zf266_51 zr_266
      · refine (R_iload zf266_29 rfl rfl).trans ?_
        refine (R_i2l zf266_31 rfl).trans ?_
        refine (R_lconst (v := 0) zf266_32 rfl rfl).trans ?_
        refine (R_lconst (v := 1) zf266_33 rfl rfl).trans ?_
        refine (R_callI zf266_34 zo_266 zsl_12_217 (by rw [zr_183]; rfl) zl_183 (Nat.le_of_ble_eq_true rfl) rfl rfl (Nat.le_of_ble_eq_true rfl) (Nat.le_of_ble_eq_true rfl) (es := [.inr (.inl x3), vU, .inr (.inl 0), vU, .inr (.inl 1), vU]) rfl rfl).trans ?_
        refine congrArg (cI _) (funext fun a11_ => funext fun h10_ => ?_)
        refine (R_if_eq (t := 50) zf266_37 rfl rfl).trans ?_
        refine ite_congr rfl (fun c12_ => ?_) (fun c12_ => ?_)
        · refine (R_iconst zf266_50 zw_m1 rfl).trans ?_
          exact R_ireturn_i zf266_51 zr_266
        · refine (R_aload_n zf266_40 rfl zlt_97 rfl).trans ?_
          refine (R_iload_n zf266_41 rfl rfl).trans ?_
          refine (R_iload_n zf266_42 rfl rfl).trans ?_
          refine (R_iload_n zf266_43 rfl rfl).trans ?_
          refine (R_vcallI zf266_44 zo_266 zvl_12_463 (by rw [zr_267]; rfl) zl_267 (Nat.le_of_ble_eq_true rfl) rfl rfl (Nat.le_of_ble_eq_true rfl) (Nat.le_of_ble_eq_true rfl) (es := [.inr (.inr (.inl 97)), .inl x0, .inl x1, .inl x2]) rfl rfl zk1_97 zo_267).trans ?_
          refine congrArg (cI _) (funext fun a14_ => funext fun h13_ => ?_)
          refine (R_if_ne (t := 52) zf266_47 rfl rfl).trans ?_
          refine ite_congr rfl (fun c15_ => ?_) (fun c15_ => ?_)
          · refine (R_iload zf266_52 rfl rfl).trans ?_
            refine (R_if_ne (t := 64) zf266_54 rfl rfl).trans ?_
            refine ite_congr rfl (fun c16_ => ?_) (fun c16_ => ?_)
            · refine (R_aload_n zf266_64 rfl zlt_97 rfl).trans ?_
              refine (R_getI zf266_65 zo_266 zfl_12_453 zk1_97 zft_12_41 rfl).trans ?_
              exact R_ireturn_i zf266_68 zr_266
            · refine (R_aload_n zf266_57 rfl zlt_97 rfl).trans ?_
              refine (R_getI zf266_58 zo_266 zfl_12_456 zk1_97 zft_12_42 rfl).trans ?_
              refine (R_goto (t := 68) zf266_61 rfl).trans ?_
              exact R_ireturn_i zf266_68 zr_266
          · refine (R_iconst zf266_50 zw_m1 rfl).trans ?_
            exact R_ireturn_i zf266_51 zr_266
-- CannonPostModel.sure(III)I at 0
theorem q269_0 (d : Nat) (x0 : Int) (x1 : Int) (x2 : Int) (h : MH) : Run (d + 1) 269 0 [.inr (.inr (.inl 97)), .inl x0, .inl x1, .inl x2] [] h = (cI (Run d 222 0 [.inr (.inr (.inl 97)), .inl x0] [] (up h 97 0 0)) fun a2_ h1_ => (if a2_ = 0 then some (some (.inl (-1)), h1_) else (cI (Run d 220 0 [.inr (.inr (.inl 97)), .inl x1] [] h1_) fun a5_ h4_ => (if a5_ = 0 then some (some (.inl (-1)), h4_) else (cI (Run d 220 0 [.inr (.inr (.inl 97)), .inl x2] [] h4_) fun a8_ h7_ => (if a8_ = 0 then some (some (.inl (-1)), h7_) else (cI (Run d 270 0 [.inr (.inr (.inl 97)), .inl x0, .inl x1, .inl x2, vU, vU, vU] [] h7_) fun a11_ h10_ => some (some (.inl a11_), h10_)))))))) := by
  refine (R_aload_n zf269_0 rfl zlt_97 rfl).trans ?_
  refine (R_iconst zf269_1 zw_0 rfl).trans ?_
  refine (R_putI zf269_2 zo_269 zfl_12_96 zk1_97 zft_12_0 rfl).trans ?_
  refine (R_aload_n zf269_5 rfl zlt_97 rfl).trans ?_
  refine (R_iload_n zf269_6 rfl rfl).trans ?_
  refine (R_vcallI zf269_7 zo_269 zvl_12_339 (by rw [zr_222]; rfl) zl_222 (Nat.le_of_ble_eq_true rfl) rfl rfl (Nat.le_of_ble_eq_true rfl) (Nat.le_of_ble_eq_true rfl) (es := [.inr (.inr (.inl 97)), .inl x0]) rfl rfl zk1_97 zo_222).trans ?_
  refine congrArg (cI _) (funext fun a2_ => funext fun h1_ => ?_)
  refine (R_if_eq (t := 39) zf269_10 rfl rfl).trans ?_
  refine ite_congr rfl (fun c3_ => ?_) (fun c3_ => ?_)
  · refine (R_iconst zf269_39 zw_m1 rfl).trans ?_
    exact R_ireturn_i zf269_40 zr_269
  · refine (R_aload_n zf269_13 rfl zlt_97 rfl).trans ?_
    refine (R_iload_n zf269_14 rfl rfl).trans ?_
    refine (R_vcallI zf269_15 zo_269 zvl_12_362 (by rw [zr_220]; rfl) zl_220 (Nat.le_of_ble_eq_true rfl) rfl rfl (Nat.le_of_ble_eq_true rfl) (Nat.le_of_ble_eq_true rfl) (es := [.inr (.inr (.inl 97)), .inl x1]) rfl rfl zk1_97 zo_220).trans ?_
    refine congrArg (cI _) (funext fun a5_ => funext fun h4_ => ?_)
    refine (R_if_eq (t := 39) zf269_18 rfl rfl).trans ?_
    refine ite_congr rfl (fun c6_ => ?_) (fun c6_ => ?_)
    · refine (R_iconst zf269_39 zw_m1 rfl).trans ?_
      exact R_ireturn_i zf269_40 zr_269
    · refine (R_aload_n zf269_21 rfl zlt_97 rfl).trans ?_
      refine (R_iload_n zf269_22 rfl rfl).trans ?_
      refine (R_vcallI zf269_23 zo_269 zvl_12_362 (by rw [zr_220]; rfl) zl_220 (Nat.le_of_ble_eq_true rfl) rfl rfl (Nat.le_of_ble_eq_true rfl) (Nat.le_of_ble_eq_true rfl) (es := [.inr (.inr (.inl 97)), .inl x2]) rfl rfl zk1_97 zo_220).trans ?_
      refine congrArg (cI _) (funext fun a8_ => funext fun h7_ => ?_)
      refine (R_if_eq (t := 39) zf269_26 rfl rfl).trans ?_
      refine ite_congr rfl (fun c9_ => ?_) (fun c9_ => ?_)
      · refine (R_iconst zf269_39 zw_m1 rfl).trans ?_
        exact R_ireturn_i zf269_40 zr_269
      · refine (R_aload_n zf269_29 rfl zlt_97 rfl).trans ?_
        refine (R_iload_n zf269_30 rfl rfl).trans ?_
        refine (R_iload_n zf269_31 rfl rfl).trans ?_
        refine (R_iload_n zf269_32 rfl rfl).trans ?_
        refine (R_vcallI zf269_33 zo_269 zvl_12_471 (by rw [zr_270]; rfl) zl_270 (Nat.le_of_ble_eq_true rfl) rfl rfl (Nat.le_of_ble_eq_true rfl) (Nat.le_of_ble_eq_true rfl) (es := [.inr (.inr (.inl 97)), .inl x0, .inl x1, .inl x2, vU, vU, vU]) rfl rfl zk1_97 zo_270).trans ?_
        refine congrArg (cI _) (funext fun a11_ => funext fun h10_ => ?_)
        refine (R_goto (t := 40) zf269_36 rfl).trans ?_
        exact R_ireturn_i zf269_40 zr_269
-- CannonPostModel.surest(II)I at 0
theorem q271_0 (d : Nat) (x0 : Int) (x1 : Int) (h : MH) : Run (d + 1) 271 0 [.inr (.inr (.inl 97)), .inl x0, .inl x1, vU, vU, vU, vU] [] h = (cI (Run d 220 0 [.inr (.inr (.inl 97)), .inl x0] [] (up h 97 0 0)) fun a2_ h1_ => (if a2_ = 0 then some (some (.inl (-1)), h1_) else (cI (Run d 220 0 [.inr (.inr (.inl 97)), .inl x1] [] h1_) fun a5_ h4_ => (if ¬ a5_ = 0 then Run (d + 1) 271 31 [.inr (.inr (.inl 97)), .inl x0, .inl x1, .inl (-1), .inl (-1), .inl 0, vU] [] h4_ else some (some (.inl (-1)), h4_))))) := by
  refine (R_aload_n zf271_0 rfl zlt_97 rfl).trans ?_
  refine (R_iconst zf271_1 zw_0 rfl).trans ?_
  refine (R_putI zf271_2 zo_271 zfl_12_96 zk1_97 zft_12_0 rfl).trans ?_
  refine (R_aload_n zf271_5 rfl zlt_97 rfl).trans ?_
  refine (R_iload_n zf271_6 rfl rfl).trans ?_
  refine (R_vcallI zf271_7 zo_271 zvl_12_362 (by rw [zr_220]; rfl) zl_220 (Nat.le_of_ble_eq_true rfl) rfl rfl (Nat.le_of_ble_eq_true rfl) (Nat.le_of_ble_eq_true rfl) (es := [.inr (.inr (.inl 97)), .inl x0]) rfl rfl zk1_97 zo_220).trans ?_
  refine congrArg (cI _) (funext fun a2_ => funext fun h1_ => ?_)
  refine (R_if_eq (t := 21) zf271_10 rfl rfl).trans ?_
  refine ite_congr rfl (fun c3_ => ?_) (fun c3_ => ?_)
  · refine (R_iconst zf271_21 zw_m1 rfl).trans ?_
    exact R_ireturn_i zf271_22 zr_271
  · refine (R_aload_n zf271_13 rfl zlt_97 rfl).trans ?_
    refine (R_iload_n zf271_14 rfl rfl).trans ?_
    refine (R_vcallI zf271_15 zo_271 zvl_12_362 (by rw [zr_220]; rfl) zl_220 (Nat.le_of_ble_eq_true rfl) rfl rfl (Nat.le_of_ble_eq_true rfl) (Nat.le_of_ble_eq_true rfl) (es := [.inr (.inr (.inl 97)), .inl x1]) rfl rfl zk1_97 zo_220).trans ?_
    refine congrArg (cI _) (funext fun a5_ => funext fun h4_ => ?_)
    refine (R_if_ne (t := 23) zf271_18 rfl rfl).trans ?_
    refine ite_congr rfl (fun c6_ => ?_) (fun c6_ => ?_)
    · refine (R_iconst zf271_23 zw_m1 rfl).trans ?_
      refine (R_istore_n (ls' := [.inr (.inr (.inl 97)), .inl x0, .inl x1, .inl (-1), vU, vU, vU]) zf271_24 (Nat.le_of_ble_eq_true rfl) rfl rfl).trans ?_
      refine (R_iconst zf271_25 zw_m1 rfl).trans ?_
      refine (R_istore (ls' := [.inr (.inr (.inl 97)), .inl x0, .inl x1, .inl (-1), .inl (-1), vU, vU]) zf271_26 (Nat.le_of_ble_eq_true rfl) rfl rfl).trans ?_
      refine (R_iconst zf271_28 zw_0 rfl).trans ?_
      refine (R_istore (ls' := [.inr (.inr (.inl 97)), .inl x0, .inl x1, .inl (-1), .inl (-1), .inl 0, vU]) zf271_29 (Nat.le_of_ble_eq_true rfl) rfl rfl).trans ?_
      rfl
    · refine (R_iconst zf271_21 zw_m1 rfl).trans ?_
      exact R_ireturn_i zf271_22 zr_271
-- CannonPostModel.relay(III)I at 0
theorem q272_0 (d : Nat) (x0 : Int) (x1 : Int) (x2 : Int) (h : MH) : Run (d + 1) 272 0 [.inr (.inr (.inl 97)), .inl x0, .inl x1, .inl x2, vU, vU, vU, vU] [] h = (cI (Run d 220 0 [.inr (.inr (.inl 97)), .inl x1] [] (up h 97 0 0)) fun a2_ h1_ => (if a2_ = 0 then some (some (.inl (-1)), h1_) else (cI (Run d 183 0 [.inr (.inl x0), vU, .inr (.inl 0), vU, .inr (.inl 5), vU] [] h1_) fun a5_ h4_ => (if a5_ = 0 then some (some (.inl (-1)), h4_) else (cI (Run d 183 0 [.inr (.inl x2), vU, .inr (.inl 0), vU, .inr (.inl 1), vU] [] h4_) fun a8_ h7_ => (if ¬ a8_ = 0 then (cV (Run d 273 0 [.inr (.inr (.inl 97)), vU] [] h7_) fun h10_ => (cI (Run d 274 0 [.inr (.inr (.inl 97)), .inl x0, vU, vU] [] h10_) fun a12_ h11_ => Run (d + 1) 272 51 [.inr (.inr (.inl 97)), .inl x0, .inl x1, .inl x2, .inl a12_, .inl 0, vU, vU] [] h11_)) else some (some (.inl (-1)), h7_))))))) := by
  refine (R_aload_n zf272_0 rfl zlt_97 rfl).trans ?_
  refine (R_iconst zf272_1 zw_0 rfl).trans ?_
  refine (R_putI zf272_2 zo_272 zfl_12_96 zk1_97 zft_12_0 rfl).trans ?_
  refine (R_aload_n zf272_5 rfl zlt_97 rfl).trans ?_
  refine (R_iload_n zf272_6 rfl rfl).trans ?_
  refine (R_vcallI zf272_7 zo_272 zvl_12_362 (by rw [zr_220]; rfl) zl_220 (Nat.le_of_ble_eq_true rfl) rfl rfl (Nat.le_of_ble_eq_true rfl) (Nat.le_of_ble_eq_true rfl) (es := [.inr (.inr (.inl 97)), .inl x1]) rfl rfl zk1_97 zo_220).trans ?_
  refine congrArg (cI _) (funext fun a2_ => funext fun h1_ => ?_)
  refine (R_if_eq (t := 35) zf272_10 rfl rfl).trans ?_
  refine ite_congr rfl (fun c3_ => ?_) (fun c3_ => ?_)
  · refine (R_iconst zf272_35 zw_m1 rfl).trans ?_
    exact R_ireturn_i zf272_36 zr_272
  · refine (R_iload_n zf272_13 rfl rfl).trans ?_
    refine (R_i2l zf272_14 rfl).trans ?_
    refine (R_lconst (v := 0) zf272_15 rfl rfl).trans ?_
    refine (R_ldc2_w zf272_16 zo_272 zll_12_384 rfl).trans ?_
    refine (R_callI zf272_19 zo_272 zsl_12_217 (by rw [zr_183]; rfl) zl_183 (Nat.le_of_ble_eq_true rfl) rfl rfl (Nat.le_of_ble_eq_true rfl) (Nat.le_of_ble_eq_true rfl) (es := [.inr (.inl x0), vU, .inr (.inl 0), vU, .inr (.inl 5), vU]) rfl rfl).trans ?_
    refine congrArg (cI _) (funext fun a5_ => funext fun h4_ => ?_)
    refine (R_if_eq (t := 35) zf272_22 rfl rfl).trans ?_
    refine ite_congr rfl (fun c6_ => ?_) (fun c6_ => ?_)
    · refine (R_iconst zf272_35 zw_m1 rfl).trans ?_
      exact R_ireturn_i zf272_36 zr_272
    · refine (R_iload_n zf272_25 rfl rfl).trans ?_
      refine (R_i2l zf272_26 rfl).trans ?_
      refine (R_lconst (v := 0) zf272_27 rfl rfl).trans ?_
      refine (R_lconst (v := 1) zf272_28 rfl rfl).trans ?_
      refine (R_callI zf272_29 zo_272 zsl_12_217 (by rw [zr_183]; rfl) zl_183 (Nat.le_of_ble_eq_true rfl) rfl rfl (Nat.le_of_ble_eq_true rfl) (Nat.le_of_ble_eq_true rfl) (es := [.inr (.inl x2), vU, .inr (.inl 0), vU, .inr (.inl 1), vU]) rfl rfl).trans ?_
      refine congrArg (cI _) (funext fun a8_ => funext fun h7_ => ?_)
      refine (R_if_ne (t := 37) zf272_32 rfl rfl).trans ?_
      refine ite_congr rfl (fun c9_ => ?_) (fun c9_ => ?_)
      · refine (R_aload_n zf272_37 rfl zlt_97 rfl).trans ?_
        refine (R_vcallV zf272_38 zo_272 zvl_12_481 zr_273 zl_273 (Nat.le_of_ble_eq_true rfl) rfl rfl (Nat.le_of_ble_eq_true rfl) (Nat.le_of_ble_eq_true rfl) (es := [.inr (.inr (.inl 97)), vU]) rfl rfl zk1_97 zo_273).trans ?_
        refine congrArg (cV _) (funext fun h10_ => ?_)
        refine (R_aload_n zf272_41 rfl zlt_97 rfl).trans ?_
        refine (R_iload_n zf272_42 rfl rfl).trans ?_
        refine (R_vcallI zf272_43 zo_272 zvl_12_484 (by rw [zr_274]; rfl) zl_274 (Nat.le_of_ble_eq_true rfl) rfl rfl (Nat.le_of_ble_eq_true rfl) (Nat.le_of_ble_eq_true rfl) (es := [.inr (.inr (.inl 97)), .inl x0, vU, vU]) rfl rfl zk1_97 zo_274).trans ?_
        refine congrArg (cI _) (funext fun a12_ => funext fun h11_ => ?_)
        refine (R_istore (ls' := [.inr (.inr (.inl 97)), .inl x0, .inl x1, .inl x2, .inl a12_, vU, vU, vU]) zf272_46 (Nat.le_of_ble_eq_true rfl) rfl rfl).trans ?_
        refine (R_iconst zf272_48 zw_0 rfl).trans ?_
        refine (R_istore (ls' := [.inr (.inr (.inl 97)), .inl x0, .inl x1, .inl x2, .inl a12_, .inl 0, vU, vU]) zf272_49 (Nat.le_of_ble_eq_true rfl) rfl rfl).trans ?_
        rfl
      · refine (R_iconst zf272_35 zw_m1 rfl).trans ?_
        exact R_ireturn_i zf272_36 zr_272
