/-! the methods as equations of Run: CannonPostModel.here=197, CannonPostModel.leastOf=193, CannonPostModel.mostOf=194, CannonPostModel.number=195, CannonPostModel.readItems=190, CannonPostModel.spotOf=191, CannonPostModel.term=207, LawReader.readCondition=36, String.charAt=11, String.coder=29, String.isLatin1=12, String.length=28, StringLatin1.canEncode=31, StringLatin1.charAt=13, StringLatin1.indexOf=30, StringLatin1.indexOfChar=32, jdk/internal/util/Preconditions.checkIndex=15 -/
-- CannonPostModel.readItems(I[IILjava/lang/String;)V at 45
theorem q190_45_1 (d : Nat) (x0 : Int) (x1 : Int) (x2 : Int) (x3 : Int) (h : MH) : Run (d + 1) 190 45 [.inr (.inr (.inl 97)), .inl x0, .inr (.inr (.inl 105)), .inl x1, .inr (.inr (.inl 128)), .inl x2, .inl x3] [] h = (if x3 = (-1) then some (none, h) else (if ¬ (h 97 11) = (-1) then some (none, h) else (cI (Run d 192 0 [.inl x2, .inl x3] [] h) fun a4_ h3_ => (if a4_ = 0 then (cI (Run d 193 0 [.inl x0, .inl x3] [] (up h3_ 97 10 (wI ((h3_ 97 10) + 1)))) fun a7_ h6_ => (cI (Run d 194 0 [.inl x0, .inl x3] [] h6_) fun a9_ h8_ => (cI (Run d 195 0 [.inr (.inr (.inl 97)), .inl a7_, .inl a9_, vU, vU] [] h8_) fun a11_ h10_ => (if 0 ≤ (wI (x1 + x3)) ∧ (wI (x1 + x3)) < 24 then (if ¬ ((up h10_ 105 (wI (x1 + x3)).toNat a11_) 97 11) = (-1) then Run (d + 1) 190 45 [.inr (.inr (.inl 97)), .inl x0, .inr (.inr (.inl 105)), .inl x1, .inr (.inr (.inl 128)), .inl (iOr x2 (iShl 1 x3)), .inl x3] [] (up h10_ 105 (wI (x1 + x3)).toNat a11_) else (cI (Run d 188 0 [.inr (.inr (.inl 97))] [] (up h10_ 105 (wI (x1 + x3)).toNat a11_)) fun a15_ h14_ => (cI (Run d 191 0 [.inr (.inr (.inl 128)), .inl a15_, vU] [] h14_) fun a17_ h16_ => Run (d + 1) 190 45 [.inr (.inr (.inl 97)), .inl x0, .inr (.inr (.inl 105)), .inl x1, .inr (.inr (.inl 128)), .inl (iOr x2 (iShl 1 x3)), .inl a17_] [] h16_))) else none)))) else (cI (Run d 189 0 [.inr (.inr (.inl 97))] [] h3_) fun a19_ h18_ => some (none, h18_)))))) := by
  refine (R_iload zf190_45 rfl rfl).trans ?_
  refine (R_iconst zf190_47 zw_m1 rfl).trans ?_
  refine (R_icmp_eq (t := 138) zf190_48 rfl rfl).trans ?_
  refine ite_congr rfl (fun c1_ => ?_) (fun c1_ => ?_)
  · exact R_return zf190_138 zr_190
  · refine (R_aload_n zf190_51 rfl zlt_97 rfl).trans ?_
    refine (R_getI zf190_52 zo_190 zfl_12_128 zk1_97 zft_12_11 rfl).trans ?_
    refine (R_iconst zf190_55 zw_m1 rfl).trans ?_
    refine (R_icmp_ne (t := 138) zf190_56 rfl rfl).trans ?_
    refine ite_congr rfl (fun c2_ => ?_) (fun c2_ => ?_)
    · exact R_return zf190_138 zr_190
    · refine (R_iload zf190_59 rfl rfl).trans ?_
      refine (R_iload zf190_61 rfl rfl).trans ?_
      refine (R_callI zf190_63 zo_190 zsl_12_229 (by rw [zr_192]; rfl) zl_192 (Nat.le_of_ble_eq_true rfl) rfl rfl (Nat.le_of_ble_eq_true rfl) (Nat.le_of_ble_eq_true rfl) (es := [.inl x2, .inl x3]) rfl rfl).trans ?_
      refine congrArg (cI _) (funext fun a4_ => funext fun h3_ => ?_)
      refine (R_if_eq (t := 75) zf190_66 rfl rfl).trans ?_
      refine ite_congr rfl (fun c5_ => ?_) (fun c5_ => ?_)
      · refine (R_iload zf190_75 rfl rfl).trans ?_
        refine (R_iconst zf190_77 zw_1 rfl).trans ?_
        refine (R_iload zf190_78 rfl rfl).trans ?_
        refine (R_ishl zf190_80 rfl).trans ?_
        refine (R_ior zf190_81 rfl).trans ?_
        refine (R_istore (ls' := [.inr (.inr (.inl 97)), .inl x0, .inr (.inr (.inl 105)), .inl x1, .inr (.inr (.inl 128)), .inl (iOr x2 (iShl 1 x3)), .inl x3]) zf190_82 (Nat.le_of_ble_eq_true rfl) rfl rfl).trans ?_
        refine (R_aload_n zf190_84 rfl zlt_97 rfl).trans ?_
        refine (R_dup zf190_85 rfl rfl).trans ?_
        refine (R_getI zf190_86 zo_190 zfl_12_119 zk1_97 zft_12_10 rfl).trans ?_
        refine (R_iconst zf190_89 zw_1 rfl).trans ?_
        refine (R_iadd zf190_90 rfl).trans ?_
        refine (R_putI zf190_91 zo_190 zfl_12_119 zk1_97 zft_12_10 rfl).trans ?_
        refine (R_aload_n zf190_94 rfl zlt_105 rfl).trans ?_
        refine (R_iload_n zf190_95 rfl rfl).trans ?_
        refine (R_iload zf190_96 rfl rfl).trans ?_
        refine (R_iadd zf190_98 rfl).trans ?_
        refine (R_aload_n zf190_99 rfl zlt_97 rfl).trans ?_
        refine (R_iload_n zf190_100 rfl rfl).trans ?_
        refine (R_iload zf190_101 rfl rfl).trans ?_
        refine (R_callI zf190_103 zo_190 zsl_12_233 (by rw [zr_193]; rfl) zl_193 (Nat.le_of_ble_eq_true rfl) rfl rfl (Nat.le_of_ble_eq_true rfl) (Nat.le_of_ble_eq_true rfl) (es := [.inl x0, .inl x3]) rfl rfl).trans ?_
        refine congrArg (cI _) (funext fun a7_ => funext fun h6_ => ?_)
        refine (R_iload_n zf190_106 rfl rfl).trans ?_
        refine (R_iload zf190_107 rfl rfl).trans ?_
        refine (R_callI zf190_109 zo_190 zsl_12_236 (by rw [zr_194]; rfl) zl_194 (Nat.le_of_ble_eq_true rfl) rfl rfl (Nat.le_of_ble_eq_true rfl) (Nat.le_of_ble_eq_true rfl) (es := [.inl x0, .inl x3]) rfl rfl).trans ?_
        refine congrArg (cI _) (funext fun a9_ => funext fun h8_ => ?_)
        refine (R_vcallI zf190_112 zo_190 zvl_12_239 (by rw [zr_195]; rfl) zl_195 (Nat.le_of_ble_eq_true rfl) rfl rfl (Nat.le_of_ble_eq_true rfl) (Nat.le_of_ble_eq_true rfl) (es := [.inr (.inr (.inl 97)), .inl a7_, .inl a9_, vU, vU]) rfl rfl zk1_97 zo_195).trans ?_
        refine congrArg (cI _) (funext fun a11_ => funext fun h10_ => ?_)
        refine (R_iast zf190_115 zk_105 rfl).trans ?_
        refine ite_congr rfl (fun c12_ => ?_) (fun _ => rfl)
        refine (R_aload_n zf190_116 rfl zlt_97 rfl).trans ?_
        refine (R_getI zf190_117 zo_190 zfl_12_128 zk1_97 zft_12_11 rfl).trans ?_
        refine (R_iconst zf190_120 zw_m1 rfl).trans ?_
        refine (R_icmp_ne (t := 45) zf190_121 rfl rfl).trans ?_
        refine ite_congr rfl (fun c13_ => ?_) (fun c13_ => ?_)
        · rfl
        · refine (R_aload zf190_124 rfl zlt_128 rfl).trans ?_
          refine (R_aload_n zf190_126 rfl zlt_97 rfl).trans ?_
          refine (R_vcallI zf190_127 zo_190 zvl_12_138 (by rw [zr_188]; rfl) zl_188 (Nat.le_of_ble_eq_true rfl) rfl rfl (Nat.le_of_ble_eq_true rfl) (Nat.le_of_ble_eq_true rfl) (es := [.inr (.inr (.inl 97))]) rfl rfl zk1_97 zo_188).trans ?_
          refine congrArg (cI _) (funext fun a15_ => funext fun h14_ => ?_)
          refine (R_callI zf190_130 zo_190 zsl_12_225 (by rw [zr_191]; rfl) zl_191 (Nat.le_of_ble_eq_true rfl) rfl rfl (Nat.le_of_ble_eq_true rfl) (Nat.le_of_ble_eq_true rfl) (es := [.inr (.inr (.inl 128)), .inl a15_, vU]) rfl rfl).trans ?_
          refine congrArg (cI _) (funext fun a17_ => funext fun h16_ => ?_)
          refine (R_istore (ls' := [.inr (.inr (.inl 97)), .inl x0, .inr (.inr (.inl 105)), .inl x1, .inr (.inr (.inl 128)), .inl (iOr x2 (iShl 1 x3)), .inl a17_]) zf190_133 (Nat.le_of_ble_eq_true rfl) rfl rfl).trans ?_
          refine (R_goto (t := 45) zf190_135 rfl).trans ?_
          rfl
      · refine (R_aload_n zf190_69 rfl zlt_97 rfl).trans ?_
        refine (R_vcallI zf190_70 zo_190 zvl_12_134 (by rw [zr_189]; rfl) zl_189 (Nat.le_of_ble_eq_true rfl) rfl rfl (Nat.le_of_ble_eq_true rfl) (Nat.le_of_ble_eq_true rfl) (es := [.inr (.inr (.inl 97))]) rfl rfl zk1_97 zo_189).trans ?_
        refine congrArg (cI _) (funext fun a19_ => funext fun h18_ => ?_)
        refine (R_pop zf190_73 rfl rfl).trans ?_
        exact R_return zf190_74 zr_190
-- java/lang/String.length()I at 0
theorem q28_0_4 (d : Nat) (h : MH) : Run (d + 1) 28 0 [.inr (.inr (.inl 127))] [] h = (cI (Run d 29 0 [.inr (.inr (.inl 127))] [] h) fun a2_ h1_ => some (some (.inl (iShr 4 a2_)), h1_)) := by
  refine (R_aload_n zf28_0 rfl zlt_127 rfl).trans ?_
  refine (R_getR zf28_1 zo_28 zfl_13_9 zk1_127 zft_13_0 zmr_127_0 rfl).trans ?_
  refine (R_len111 (v := 4) zf28_4 zk_134 rfl rfl).trans ?_
  refine (R_aload_n zf28_5 rfl zlt_127 rfl).trans ?_
  refine (R_vcallI zf28_6 zo_28 zvl_13_335 (by rw [zr_29]; rfl) zl_29 (Nat.le_of_ble_eq_true rfl) rfl rfl (Nat.le_of_ble_eq_true rfl) (Nat.le_of_ble_eq_true rfl) (es := [.inr (.inr (.inl 127))]) rfl rfl zk1_127 zo_29).trans ?_
  refine congrArg (cI _) (funext fun a2_ => funext fun h1_ => ?_)
  refine (R_ishr zf28_9 rfl).trans ?_
  exact R_ireturn_i zf28_10 zr_28
-- CannonPostModel.spotOf(Ljava/lang/String;I)I at 0
theorem q191_0_3 (d : Nat) (x0 : Int) (h : MH) : Run (d + 1) 191 0 [.inr (.inr (.inl 127)), .inl x0, vU] [] h = Run (d + 1) 191 2 [.inr (.inr (.inl 127)), .inl x0, .inl 0] [] h := by
  refine (R_iconst zf191_0 zw_0 rfl).trans ?_
  refine (R_istore_n (ls' := [.inr (.inr (.inl 127)), .inl x0, .inl 0]) zf191_1 (Nat.le_of_ble_eq_true rfl) rfl rfl).trans ?_
  rfl
-- CannonPostModel.readItems(I[IILjava/lang/String;)V at 45
theorem q190_45_2 (d : Nat) (x0 : Int) (x1 : Int) (x2 : Int) (x3 : Int) (h : MH) : Run (d + 1) 190 45 [.inr (.inr (.inl 97)), .inl x0, .inr (.inr (.inl 103)), .inl x1, .inr (.inr (.inl 127)), .inl x2, .inl x3] [] h = (if x3 = (-1) then some (none, h) else (if ¬ (h 97 11) = (-1) then some (none, h) else (cI (Run d 192 0 [.inl x2, .inl x3] [] h) fun a4_ h3_ => (if a4_ = 0 then (cI (Run d 193 0 [.inl x0, .inl x3] [] (up h3_ 97 10 (wI ((h3_ 97 10) + 1)))) fun a7_ h6_ => (cI (Run d 194 0 [.inl x0, .inl x3] [] h6_) fun a9_ h8_ => (cI (Run d 195 0 [.inr (.inr (.inl 97)), .inl a7_, .inl a9_, vU, vU] [] h8_) fun a11_ h10_ => (if 0 ≤ (wI (x1 + x3)) ∧ (wI (x1 + x3)) < 4 then (if ¬ ((up h10_ 103 (wI (x1 + x3)).toNat a11_) 97 11) = (-1) then Run (d + 1) 190 45 [.inr (.inr (.inl 97)), .inl x0, .inr (.inr (.inl 103)), .inl x1, .inr (.inr (.inl 127)), .inl (iOr x2 (iShl 1 x3)), .inl x3] [] (up h10_ 103 (wI (x1 + x3)).toNat a11_) else (cI (Run d 188 0 [.inr (.inr (.inl 97))] [] (up h10_ 103 (wI (x1 + x3)).toNat a11_)) fun a15_ h14_ => (cI (Run d 191 0 [.inr (.inr (.inl 127)), .inl a15_, vU] [] h14_) fun a17_ h16_ => Run (d + 1) 190 45 [.inr (.inr (.inl 97)), .inl x0, .inr (.inr (.inl 103)), .inl x1, .inr (.inr (.inl 127)), .inl (iOr x2 (iShl 1 x3)), .inl a17_] [] h16_))) else none)))) else (cI (Run d 189 0 [.inr (.inr (.inl 97))] [] h3_) fun a19_ h18_ => some (none, h18_)))))) := by
  refine (R_iload zf190_45 rfl rfl).trans ?_
  refine (R_iconst zf190_47 zw_m1 rfl).trans ?_
  refine (R_icmp_eq (t := 138) zf190_48 rfl rfl).trans ?_
  refine ite_congr rfl (fun c1_ => ?_) (fun c1_ => ?_)
  · exact R_return zf190_138 zr_190
  · refine (R_aload_n zf190_51 rfl zlt_97 rfl).trans ?_
    refine (R_getI zf190_52 zo_190 zfl_12_128 zk1_97 zft_12_11 rfl).trans ?_
    refine (R_iconst zf190_55 zw_m1 rfl).trans ?_
    refine (R_icmp_ne (t := 138) zf190_56 rfl rfl).trans ?_
    refine ite_congr rfl (fun c2_ => ?_) (fun c2_ => ?_)
    · exact R_return zf190_138 zr_190
    · refine (R_iload zf190_59 rfl rfl).trans ?_
      refine (R_iload zf190_61 rfl rfl).trans ?_
      refine (R_callI zf190_63 zo_190 zsl_12_229 (by rw [zr_192]; rfl) zl_192 (Nat.le_of_ble_eq_true rfl) rfl rfl (Nat.le_of_ble_eq_true rfl) (Nat.le_of_ble_eq_true rfl) (es := [.inl x2, .inl x3]) rfl rfl).trans ?_
      refine congrArg (cI _) (funext fun a4_ => funext fun h3_ => ?_)
      refine (R_if_eq (t := 75) zf190_66 rfl rfl).trans ?_
      refine ite_congr rfl (fun c5_ => ?_) (fun c5_ => ?_)
      · refine (R_iload zf190_75 rfl rfl).trans ?_
        refine (R_iconst zf190_77 zw_1 rfl).trans ?_
        refine (R_iload zf190_78 rfl rfl).trans ?_
        refine (R_ishl zf190_80 rfl).trans ?_
        refine (R_ior zf190_81 rfl).trans ?_
        refine (R_istore (ls' := [.inr (.inr (.inl 97)), .inl x0, .inr (.inr (.inl 103)), .inl x1, .inr (.inr (.inl 127)), .inl (iOr x2 (iShl 1 x3)), .inl x3]) zf190_82 (Nat.le_of_ble_eq_true rfl) rfl rfl).trans ?_
        refine (R_aload_n zf190_84 rfl zlt_97 rfl).trans ?_
        refine (R_dup zf190_85 rfl rfl).trans ?_
        refine (R_getI zf190_86 zo_190 zfl_12_119 zk1_97 zft_12_10 rfl).trans ?_
        refine (R_iconst zf190_89 zw_1 rfl).trans ?_
        refine (R_iadd zf190_90 rfl).trans ?_
        refine (R_putI zf190_91 zo_190 zfl_12_119 zk1_97 zft_12_10 rfl).trans ?_
        refine (R_aload_n zf190_94 rfl zlt_103 rfl).trans ?_
        refine (R_iload_n zf190_95 rfl rfl).trans ?_
        refine (R_iload zf190_96 rfl rfl).trans ?_
        refine (R_iadd zf190_98 rfl).trans ?_
        refine (R_aload_n zf190_99 rfl zlt_97 rfl).trans ?_
        refine (R_iload_n zf190_100 rfl rfl).trans ?_
        refine (R_iload zf190_101 rfl rfl).trans ?_
        refine (R_callI zf190_103 zo_190 zsl_12_233 (by rw [zr_193]; rfl) zl_193 (Nat.le_of_ble_eq_true rfl) rfl rfl (Nat.le_of_ble_eq_true rfl) (Nat.le_of_ble_eq_true rfl) (es := [.inl x0, .inl x3]) rfl rfl).trans ?_
        refine congrArg (cI _) (funext fun a7_ => funext fun h6_ => ?_)
        refine (R_iload_n zf190_106 rfl rfl).trans ?_
        refine (R_iload zf190_107 rfl rfl).trans ?_
        refine (R_callI zf190_109 zo_190 zsl_12_236 (by rw [zr_194]; rfl) zl_194 (Nat.le_of_ble_eq_true rfl) rfl rfl (Nat.le_of_ble_eq_true rfl) (Nat.le_of_ble_eq_true rfl) (es := [.inl x0, .inl x3]) rfl rfl).trans ?_
        refine congrArg (cI _) (funext fun a9_ => funext fun h8_ => ?_)
        refine (R_vcallI zf190_112 zo_190 zvl_12_239 (by rw [zr_195]; rfl) zl_195 (Nat.le_of_ble_eq_true rfl) rfl rfl (Nat.le_of_ble_eq_true rfl) (Nat.le_of_ble_eq_true rfl) (es := [.inr (.inr (.inl 97)), .inl a7_, .inl a9_, vU, vU]) rfl rfl zk1_97 zo_195).trans ?_
        refine congrArg (cI _) (funext fun a11_ => funext fun h10_ => ?_)
        refine (R_iast zf190_115 zk_103 rfl).trans ?_
        refine ite_congr rfl (fun c12_ => ?_) (fun _ => rfl)
        refine (R_aload_n zf190_116 rfl zlt_97 rfl).trans ?_
        refine (R_getI zf190_117 zo_190 zfl_12_128 zk1_97 zft_12_11 rfl).trans ?_
        refine (R_iconst zf190_120 zw_m1 rfl).trans ?_
        refine (R_icmp_ne (t := 45) zf190_121 rfl rfl).trans ?_
        refine ite_congr rfl (fun c13_ => ?_) (fun c13_ => ?_)
        · rfl
        · refine (R_aload zf190_124 rfl zlt_127 rfl).trans ?_
          refine (R_aload_n zf190_126 rfl zlt_97 rfl).trans ?_
          refine (R_vcallI zf190_127 zo_190 zvl_12_138 (by rw [zr_188]; rfl) zl_188 (Nat.le_of_ble_eq_true rfl) rfl rfl (Nat.le_of_ble_eq_true rfl) (Nat.le_of_ble_eq_true rfl) (es := [.inr (.inr (.inl 97))]) rfl rfl zk1_97 zo_188).trans ?_
          refine congrArg (cI _) (funext fun a15_ => funext fun h14_ => ?_)
          refine (R_callI zf190_130 zo_190 zsl_12_225 (by rw [zr_191]; rfl) zl_191 (Nat.le_of_ble_eq_true rfl) rfl rfl (Nat.le_of_ble_eq_true rfl) (Nat.le_of_ble_eq_true rfl) (es := [.inr (.inr (.inl 127)), .inl a15_, vU]) rfl rfl).trans ?_
          refine congrArg (cI _) (funext fun a17_ => funext fun h16_ => ?_)
          refine (R_istore (ls' := [.inr (.inr (.inl 97)), .inl x0, .inr (.inr (.inl 103)), .inl x1, .inr (.inr (.inl 127)), .inl (iOr x2 (iShl 1 x3)), .inl a17_]) zf190_133 (Nat.le_of_ble_eq_true rfl) rfl rfl).trans ?_
          refine (R_goto (t := 45) zf190_135 rfl).trans ?_
          rfl
      · refine (R_aload_n zf190_69 rfl zlt_97 rfl).trans ?_
        refine (R_vcallI zf190_70 zo_190 zvl_12_134 (by rw [zr_189]; rfl) zl_189 (Nat.le_of_ble_eq_true rfl) rfl rfl (Nat.le_of_ble_eq_true rfl) (Nat.le_of_ble_eq_true rfl) (es := [.inr (.inr (.inl 97))]) rfl rfl zk1_97 zo_189).trans ?_
        refine congrArg (cI _) (funext fun a19_ => funext fun h18_ => ?_)
        refine (R_pop zf190_73 rfl rfl).trans ?_
        exact R_return zf190_74 zr_190
-- java/lang/String.charAt(I)C at 0
theorem q11_0_2 (d : Nat) (x0 : Int) (h : MH) : Run (d + 1) 11 0 [.inr (.inr (.inl 124)), .inl x0] [] h = (cI (Run d 12 0 [.inr (.inr (.inl 124))] [] h) fun a2_ h1_ => (if a2_ = 0 then Run (d + 1) 11 21 [.inr (.inr (.inl 124)), .inl x0] [.inl x0, .inr (.inr (.inl 131))] h1_ else (cI (Run d 13 0 [.inr (.inr (.inl 131)), .inl x0] [] h1_) fun a5_ h4_ => (if 0 ≤ a5_ ∧ a5_ ≤ 65535 then some (some (.inl a5_), h4_) else none)))) := by
  refine (R_aload_n zf11_0 rfl zlt_124 rfl).trans ?_
  refine (R_vcallI zf11_1 zo_11 zvl_13_492 (by rw [zr_12]; rfl) zl_12 (Nat.le_of_ble_eq_true rfl) rfl rfl (Nat.le_of_ble_eq_true rfl) (Nat.le_of_ble_eq_true rfl) (es := [.inr (.inr (.inl 124))]) rfl rfl zk1_124 zo_12).trans ?_
  refine congrArg (cI _) (funext fun a2_ => funext fun h1_ => ?_)
  refine (R_if_eq (t := 16) zf11_4 rfl rfl).trans ?_
  refine ite_congr rfl (fun c3_ => ?_) (fun c3_ => ?_)
  · refine (R_aload_n zf11_16 rfl zlt_124 rfl).trans ?_
    refine (R_getR zf11_17 zo_11 zfl_13_9 zk1_124 zft_13_0 zmr_124_0 rfl).trans ?_
    refine (R_iload_n zf11_20 rfl rfl).trans ?_
    rfl
  · refine (R_aload_n zf11_7 rfl zlt_124 rfl).trans ?_
    refine (R_getR zf11_8 zo_11 zfl_13_9 zk1_124 zft_13_0 zmr_124_0 rfl).trans ?_
    refine (R_iload_n zf11_11 rfl rfl).trans ?_
    refine (R_callI zf11_12 zo_11 zsl_13_495 (by rw [zr_13]; rfl) zl_13 (Nat.le_of_ble_eq_true rfl) rfl rfl (Nat.le_of_ble_eq_true rfl) (Nat.le_of_ble_eq_true rfl) (es := [.inr (.inr (.inl 131)), .inl x0]) rfl rfl).trans ?_
    refine congrArg (cI _) (funext fun a5_ => funext fun h4_ => ?_)
    exact R_ireturn_c zf11_15 zr_11
-- CannonPost$LawReader.readCondition(IZ)Z at 85
theorem q36_85 (d : Nat) (x0 : Int) (z1 : MV) (hz1 : cat z1 = 1) (z2 : MV) (hz2 : cat z2 = 1) (x3 : Int) (x4 : Int) (y5 : Int) (h : MH) : Run (d + 1) 36 85 [.inr (.inr (.inl 5)), .inl x0, z1, z2, .inl x3, .inl x4] [.inl y5] h = (cI (Run d 37 0 [.inr (.inr (.inl 5)), .inl x0, .inl 0, vU, vU] [] h) fun a2_ h1_ => (if ¬ a2_ = 0 then (if ¬ x4 = 0 then Run (d + 1) 36 16 [.inr (.inr (.inl 5)), .inl x0, z1, .inl y5, .inl (wI (x3 + 1)), .inl x4] [] h1_ else (cV (Run d 33 0 [.inr (.inr (.inl 5)), .inl 9, .inl 0] [] h1_) fun h5_ => Run (d + 1) 36 16 [.inr (.inr (.inl 5)), .inl x0, z1, .inl y5, .inl (wI (x3 + 1)), .inl x4] [] h5_)) else some (some (.inl 0), h1_))) := by
  refine (R_istore_n (ls' := [.inr (.inr (.inl 5)), .inl x0, z1, .inl y5, .inl x3, .inl x4]) zf36_85 (Nat.le_of_ble_eq_true rfl) (st1_z rfl hz1 rfl) rfl).trans ?_
  refine (R_aload_n zf36_86 rfl zlt_5 rfl).trans ?_
  refine (R_iload_n zf36_87 rfl rfl).trans ?_
  refine (R_iconst zf36_88 zw_0 rfl).trans ?_
  refine (R_vcallI zf36_89 zo_36 zvl_3_58 (by rw [zr_37]; rfl) zl_37 (Nat.le_of_ble_eq_true rfl) rfl rfl (Nat.le_of_ble_eq_true rfl) (Nat.le_of_ble_eq_true rfl) (es := [.inr (.inr (.inl 5)), .inl x0, .inl 0, vU, vU]) rfl rfl zk1_5 zo_37).trans ?_
  refine congrArg (cI _) (funext fun a2_ => funext fun h1_ => ?_)
  refine (R_if_ne (t := 97) zf36_92 rfl rfl).trans ?_
  refine ite_congr rfl (fun c3_ => ?_) (fun c3_ => ?_)
  · refine (R_iload zf36_97 rfl rfl).trans ?_
    refine (R_if_ne (t := 109) zf36_99 rfl rfl).trans ?_
    refine ite_congr rfl (fun c4_ => ?_) (fun c4_ => ?_)
    · refine (R_iinc (ls' := [.inr (.inr (.inl 5)), .inl x0, z1, .inl y5, .inl (wI (x3 + 1)), .inl x4]) zf36_109 rfl rfl rfl).trans ?_
      refine (R_goto (t := 16) zf36_112 rfl).trans ?_
      rfl
    · refine (R_aload_n zf36_102 rfl zlt_5 rfl).trans ?_
      refine (R_bipush zf36_103 zb_9 rfl).trans ?_
      refine (R_iconst zf36_105 zw_0 rfl).trans ?_
      refine (R_vcallV zf36_106 zo_36 zvl_3_50 zr_33 zl_33 (Nat.le_of_ble_eq_true rfl) rfl rfl (Nat.le_of_ble_eq_true rfl) (Nat.le_of_ble_eq_true rfl) (es := [.inr (.inr (.inl 5)), .inl 9, .inl 0]) rfl rfl zk1_5 zo_33).trans ?_
      refine congrArg (cV _) (funext fun h5_ => ?_)
      refine (R_iinc (ls' := [.inr (.inr (.inl 5)), .inl x0, z1, .inl y5, .inl (wI (x3 + 1)), .inl x4]) zf36_109 rfl rfl rfl).trans ?_
      refine (R_goto (t := 16) zf36_112 rfl).trans ?_
      rfl
  · refine (R_iconst zf36_95 zw_0 rfl).trans ?_
    exact R_ireturn zf36_96 (by rw [zr_36]; rfl)
-- java/lang/String.isLatin1()Z at 0
theorem q12_0_2 (d : Nat) (h : MH) : Run d 12 0 [.inr (.inr (.inl 125))] [] h = some (some (.inl 1), h) := by
  refine (R_getsI (u := 1) zf12_0 zo_12 zgl_13_38 rfl rfl).trans ?_
  refine ((R_if_eq (t := 17) zf12_3 rfl rfl).trans (if_neg (by decide))).trans ?_
  refine (R_aload_n zf12_6 rfl zlt_125 rfl).trans ?_
  refine (R_getC zf12_7 zo_12 zfl_13_15 zk1_125 zft_13_1 rfl).trans ?_
  refine ((R_if_ne (t := 17) zf12_10 rfl rfl).trans (if_neg (by decide))).trans ?_
  refine (R_iconst zf12_13 zw_1 rfl).trans ?_
  refine (R_goto (t := 18) zf12_14 rfl).trans ?_
  exact R_ireturn zf12_18 (by rw [zr_12]; rfl)
-- java/lang/String.length()I at 0
theorem q28_0_5 (d : Nat) (h : MH) : Run (d + 1) 28 0 [.inr (.inr (.inl 125))] [] h = (cI (Run d 29 0 [.inr (.inr (.inl 125))] [] h) fun a2_ h1_ => some (some (.inl (iShr 6 a2_)), h1_)) := by
  refine (R_aload_n zf28_0 rfl zlt_125 rfl).trans ?_
  refine (R_getR zf28_1 zo_28 zfl_13_9 zk1_125 zft_13_0 zmr_125_0 rfl).trans ?_
  refine (R_len111 (v := 6) zf28_4 zk_132 rfl rfl).trans ?_
  refine (R_aload_n zf28_5 rfl zlt_125 rfl).trans ?_
  refine (R_vcallI zf28_6 zo_28 zvl_13_335 (by rw [zr_29]; rfl) zl_29 (Nat.le_of_ble_eq_true rfl) rfl rfl (Nat.le_of_ble_eq_true rfl) (Nat.le_of_ble_eq_true rfl) (es := [.inr (.inr (.inl 125))]) rfl rfl zk1_125 zo_29).trans ?_
  refine congrArg (cI _) (funext fun a2_ => funext fun h1_ => ?_)
  refine (R_ishr zf28_9 rfl).trans ?_
  exact R_ireturn_i zf28_10 zr_28
-- java/lang/StringLatin1.indexOf([BIII)I at 0
theorem q30_0 (d : Nat) (x0 : Int) (x1 : Int) (x2 : Int) (h : MH) : Run (d + 1) 30 0 [.inr (.inr (.inl 132)), .inl x0, .inl x1, .inl x2] [] h = (cI (Run d 31 0 [.inl x0] [] h) fun a2_ h1_ => (if ¬ a2_ = 0 then (if (mx x1 0) < (mn x2 6) then (cI (Run d 32 0 [.inr (.inr (.inl 132)), .inl x0, .inl (mx x1 0), .inl (mn x2 6), vU, vU] [] h1_) fun a6_ h5_ => some (some (.inl a6_), h5_)) else some (some (.inl (-1)), h1_)) else some (some (.inl (-1)), h1_))) := by
  refine (R_iload_n zf30_0 rfl rfl).trans ?_
  refine (R_callI zf30_1 zo_30 zsl_14_88 (by rw [zr_31]; rfl) zl_31 (Nat.le_of_ble_eq_true rfl) rfl rfl (Nat.le_of_ble_eq_true rfl) (Nat.le_of_ble_eq_true rfl) (es := [.inl x0]) rfl rfl).trans ?_
  refine congrArg (cI _) (funext fun a2_ => funext fun h1_ => ?_)
  refine (R_if_ne (t := 9) zf30_4 rfl rfl).trans ?_
  refine ite_congr rfl (fun c3_ => ?_) (fun c3_ => ?_)
  · refine (R_iload_n zf30_9 rfl rfl).trans ?_
    refine (R_iconst zf30_10 zw_0 rfl).trans ?_
    refine (R_mmax zf30_11 zo_30 zsl_14_92 zml_14_92 zna_14_92 (Nat.le_of_ble_eq_true rfl) rfl).trans ?_
    refine (R_istore_n (ls' := [.inr (.inr (.inl 132)), .inl x0, .inl (mx x1 0), .inl x2]) zf30_14 (Nat.le_of_ble_eq_true rfl) rfl rfl).trans ?_
    refine (R_iload_n zf30_15 rfl rfl).trans ?_
    refine (R_aload_n zf30_16 rfl zlt_132 rfl).trans ?_
    refine (R_len111 (v := 6) zf30_17 zk_132 rfl rfl).trans ?_
    refine (R_mmin zf30_18 zo_30 zsl_14_38 zml_14_38 zna_14_38 (Nat.le_of_ble_eq_true rfl) rfl).trans ?_
    refine (R_istore_n (ls' := [.inr (.inr (.inl 132)), .inl x0, .inl (mx x1 0), .inl (mn x2 6)]) zf30_21 (Nat.le_of_ble_eq_true rfl) rfl rfl).trans ?_
    refine (R_iload_n zf30_22 rfl rfl).trans ?_
    refine (R_iload_n zf30_23 rfl rfl).trans ?_
    refine (R_icmp_lt (t := 29) zf30_24 rfl rfl).trans ?_
    refine ite_congr rfl (fun c4_ => ?_) (fun c4_ => ?_)
    · refine (R_aload_n zf30_29 rfl zlt_132 rfl).trans ?_
      refine (R_iload_n zf30_30 rfl rfl).trans ?_
      refine (R_iload_n zf30_31 rfl rfl).trans ?_
      refine (R_iload_n zf30_32 rfl rfl).trans ?_
      refine (R_callI zf30_33 zo_30 zsl_14_95 (by rw [zr_32]; rfl) zl_32 (Nat.le_of_ble_eq_true rfl) rfl rfl (Nat.le_of_ble_eq_true rfl) (Nat.le_of_ble_eq_true rfl) (es := [.inr (.inr (.inl 132)), .inl x0, .inl (mx x1 0), .inl (mn x2 6), vU, vU]) rfl rfl).trans ?_
      refine congrArg (cI _) (funext fun a6_ => funext fun h5_ => ?_)
      exact R_ireturn_i zf30_36 zr_30
    · refine (R_iconst zf30_27 zw_m1 rfl).trans ?_
      exact R_ireturn_i zf30_28 zr_30
  · refine (R_iconst zf30_7 zw_m1 rfl).trans ?_
    exact R_ireturn_i zf30_8 zr_30
-- jdk/internal/util/Preconditions.checkIndex(IILjava/util/function/BiFunction;)I at 0
theorem q15_0 (d : Nat) (x0 : Int) (x1 : Int) (h : MH) : Run (d + 1) 15 0 [.inl x0, .inl x1, .inr (.inr (.inl 999))] [] h = (if x0 < 0 then Run (d + 1) 15 9 [.inl x0, .inl x1, .inr (.inr (.inl 999))] [] h else (if x0 < x1 then some (some (.inl x0), h) else Run (d + 1) 15 9 [.inl x0, .inl x1, .inr (.inr (.inl 999))] [] h)) := by
  refine (R_iload_n zf15_0 rfl rfl).trans ?_
  refine (R_if_lt (t := 9) zf15_1 rfl rfl).trans ?_
  refine ite_congr rfl (fun c1_ => ?_) (fun c1_ => ?_)
  · rfl
  · refine (R_iload_n zf15_4 rfl rfl).trans ?_
    refine (R_iload_n zf15_5 rfl rfl).trans ?_
    refine (R_icmp_lt (t := 16) zf15_6 rfl rfl).trans ?_
    refine ite_congr rfl (fun c2_ => ?_) (fun c2_ => ?_)
    · refine (R_iload_n zf15_16 rfl rfl).trans ?_
      exact R_ireturn_i zf15_17 zr_15
    · rfl
-- java/lang/String.charAt(I)C at 0
theorem q11_0_3 (d : Nat) (x0 : Int) (h : MH) : Run (d + 1) 11 0 [.inr (.inr (.inl 125)), .inl x0] [] h = (cI (Run d 12 0 [.inr (.inr (.inl 125))] [] h) fun a2_ h1_ => (if a2_ = 0 then Run (d + 1) 11 21 [.inr (.inr (.inl 125)), .inl x0] [.inl x0, .inr (.inr (.inl 132))] h1_ else (cI (Run d 13 0 [.inr (.inr (.inl 132)), .inl x0] [] h1_) fun a5_ h4_ => (if 0 ≤ a5_ ∧ a5_ ≤ 65535 then some (some (.inl a5_), h4_) else none)))) := by
  refine (R_aload_n zf11_0 rfl zlt_125 rfl).trans ?_
  refine (R_vcallI zf11_1 zo_11 zvl_13_492 (by rw [zr_12]; rfl) zl_12 (Nat.le_of_ble_eq_true rfl) rfl rfl (Nat.le_of_ble_eq_true rfl) (Nat.le_of_ble_eq_true rfl) (es := [.inr (.inr (.inl 125))]) rfl rfl zk1_125 zo_12).trans ?_
  refine congrArg (cI _) (funext fun a2_ => funext fun h1_ => ?_)
  refine (R_if_eq (t := 16) zf11_4 rfl rfl).trans ?_
  refine ite_congr rfl (fun c3_ => ?_) (fun c3_ => ?_)
  · refine (R_aload_n zf11_16 rfl zlt_125 rfl).trans ?_
    refine (R_getR zf11_17 zo_11 zfl_13_9 zk1_125 zft_13_0 zmr_125_0 rfl).trans ?_
    refine (R_iload_n zf11_20 rfl rfl).trans ?_
    rfl
  · refine (R_aload_n zf11_7 rfl zlt_125 rfl).trans ?_
    refine (R_getR zf11_8 zo_11 zfl_13_9 zk1_125 zft_13_0 zmr_125_0 rfl).trans ?_
    refine (R_iload_n zf11_11 rfl rfl).trans ?_
    refine (R_callI zf11_12 zo_11 zsl_13_495 (by rw [zr_13]; rfl) zl_13 (Nat.le_of_ble_eq_true rfl) rfl rfl (Nat.le_of_ble_eq_true rfl) (Nat.le_of_ble_eq_true rfl) (es := [.inr (.inr (.inl 132)), .inl x0]) rfl rfl).trans ?_
    refine congrArg (cI _) (funext fun a5_ => funext fun h4_ => ?_)
    exact R_ireturn_c zf11_15 zr_11
-- CannonPostModel.term()I at 45
theorem q207_45_1 (d : Nat) (x0 : Int) (z1 : MV) (hz1 : cat z1 = 1) (x2 : Int) (z3 : MV) (hz3 : cat z3 = 1) (y4 : Int) (h : MH) : Run (d + 1) 207 45 [.inr (.inr (.inl 97)), .inl x0, z1, .inr (.inl x2), z3] [.inl y4] h = (cI (Run d 208 0 [.inr (.inr (.inl 97)), vU, vU, vU] [] (up h 97 10 (wI ((h 97 10) + 1)))) fun a2_ h1_ => (if y4 = 0 then (if ¬ (cmpL a2_ 0) = 0 then (if a2_ = 0 then none else (cI (Run d 210 0 [.inr (.inl (wL (x0.tdiv a2_))), vU] [] h1_) fun a6_ h5_ => Run (d + 1) 207 5 [.inr (.inr (.inl 97)), .inl a6_, .inl y4, .inr (.inl a2_), vU] [] h5_)) else (cI (Run d 210 0 [.inr (.inl 0), vU] [] h1_) fun a8_ h7_ => Run (d + 1) 207 5 [.inr (.inr (.inl 97)), .inl a8_, .inl y4, .inr (.inl a2_), vU] [] h7_)) else (cI (Run d 210 0 [.inr (.inl (wL (x0 * a2_))), vU] [] h1_) fun a10_ h9_ => Run (d + 1) 207 5 [.inr (.inr (.inl 97)), .inl a10_, .inl y4, .inr (.inl a2_), vU] [] h9_))) := by
  refine (R_istore_n (ls' := [.inr (.inr (.inl 97)), .inl x0, .inl y4, .inr (.inl x2), z3]) zf207_45 (Nat.le_of_ble_eq_true rfl) rfl rfl).trans ?_
  refine (R_aload_n zf207_46 rfl zlt_97 rfl).trans ?_
  refine (R_dup zf207_47 rfl rfl).trans ?_
  refine (R_getI zf207_48 zo_207 zfl_12_119 zk1_97 zft_12_10 rfl).trans ?_
  refine (R_iconst zf207_51 zw_1 rfl).trans ?_
  refine (R_iadd zf207_52 rfl).trans ?_
  refine (R_putI zf207_53 zo_207 zfl_12_119 zk1_97 zft_12_10 rfl).trans ?_
  refine (R_aload_n zf207_56 rfl zlt_97 rfl).trans ?_
  refine (R_vcallI zf207_57 zo_207 zvl_12_171 (by rw [zr_208]; rfl) zl_208 (Nat.le_of_ble_eq_true rfl) rfl rfl (Nat.le_of_ble_eq_true rfl) (Nat.le_of_ble_eq_true rfl) (es := [.inr (.inr (.inl 97)), vU, vU, vU]) rfl rfl zk1_97 zo_208).trans ?_
  refine congrArg (cI _) (funext fun a2_ => funext fun h1_ => ?_)
  refine (R_i2l zf207_60 rfl).trans ?_
  refine (R_lstore_n (ls' := [.inr (.inr (.inl 97)), .inl x0, .inl y4, .inr (.inl a2_), vU]) zf207_61 (Nat.le_of_ble_eq_true rfl) rfl rfl).trans ?_
  refine (R_iload_n zf207_62 rfl rfl).trans ?_
  refine (R_if_eq (t := 73) zf207_63 rfl rfl).trans ?_
  refine ite_congr rfl (fun c3_ => ?_) (fun c3_ => ?_)
  · refine (R_lload_n zf207_73 rfl rfl).trans ?_
    refine (R_lconst (v := 0) zf207_74 rfl rfl).trans ?_
    refine (R_lcmp zf207_75 rfl).trans ?_
    refine (R_if_ne (t := 83) zf207_76 rfl rfl).trans ?_
    refine ite_congr rfl (fun c4_ => ?_) (fun c4_ => ?_)
    · refine (R_iload_n zf207_83 rfl rfl).trans ?_
      refine (R_i2l zf207_84 rfl).trans ?_
      refine (R_lload_n zf207_85 rfl rfl).trans ?_
      refine (R_ldiv0 zf207_86 rfl).trans ?_
      refine ite_congr rfl (fun _ => rfl) (fun _ => ?_)
      refine (R_callI zf207_87 zo_207 zsl_12_174 (by rw [zr_210]; rfl) zl_210 (Nat.le_of_ble_eq_true rfl) rfl rfl (Nat.le_of_ble_eq_true rfl) (Nat.le_of_ble_eq_true rfl) (es := [.inr (.inl (wL (x0.tdiv a2_))), vU]) rfl rfl).trans ?_
      refine congrArg (cI _) (funext fun a6_ => funext fun h5_ => ?_)
      refine (R_istore_n (ls' := [.inr (.inr (.inl 97)), .inl a6_, .inl y4, .inr (.inl a2_), vU]) zf207_90 (Nat.le_of_ble_eq_true rfl) rfl rfl).trans ?_
      refine (R_goto (t := 5) zf207_91 rfl).trans ?_
      rfl
    · refine (R_lconst (v := 0) zf207_79 rfl rfl).trans ?_
      refine (R_goto (t := 87) zf207_80 rfl).trans ?_
      refine (R_callI zf207_87 zo_207 zsl_12_174 (by rw [zr_210]; rfl) zl_210 (Nat.le_of_ble_eq_true rfl) rfl rfl (Nat.le_of_ble_eq_true rfl) (Nat.le_of_ble_eq_true rfl) (es := [.inr (.inl 0), vU]) rfl rfl).trans ?_
      refine congrArg (cI _) (funext fun a8_ => funext fun h7_ => ?_)
      refine (R_istore_n (ls' := [.inr (.inr (.inl 97)), .inl a8_, .inl y4, .inr (.inl a2_), vU]) zf207_90 (Nat.le_of_ble_eq_true rfl) rfl rfl).trans ?_
      refine (R_goto (t := 5) zf207_91 rfl).trans ?_
      rfl
  · refine (R_iload_n zf207_66 rfl rfl).trans ?_
    refine (R_i2l zf207_67 rfl).trans ?_
    refine (R_lload_n zf207_68 rfl rfl).trans ?_
    refine (R_lmul zf207_69 rfl).trans ?_
    refine (R_goto (t := 87) zf207_70 rfl).trans ?_
    refine (R_callI zf207_87 zo_207 zsl_12_174 (by rw [zr_210]; rfl) zl_210 (Nat.le_of_ble_eq_true rfl) rfl rfl (Nat.le_of_ble_eq_true rfl) (Nat.le_of_ble_eq_true rfl) (es := [.inr (.inl (wL (x0 * a2_))), vU]) rfl rfl).trans ?_
    refine congrArg (cI _) (funext fun a10_ => funext fun h9_ => ?_)
    refine (R_istore_n (ls' := [.inr (.inr (.inl 97)), .inl a10_, .inl y4, .inr (.inl a2_), vU]) zf207_90 (Nat.le_of_ble_eq_true rfl) rfl rfl).trans ?_
    refine (R_goto (t := 5) zf207_91 rfl).trans ?_
    rfl
-- java/lang/String.coder()B at 0
theorem q29_0_2 (d : Nat) (h : MH) : Run d 29 0 [.inr (.inr (.inl 129))] [] h = some (some (.inl 0), h) := by
  refine (R_getsI (u := 1) zf29_0 zo_29 zgl_13_38 rfl rfl).trans ?_
  refine ((R_if_eq (t := 13) zf29_3 rfl rfl).trans (if_neg (by decide))).trans ?_
  refine (R_aload_n zf29_6 rfl zlt_129 rfl).trans ?_
  refine (R_getC zf29_7 zo_29 zfl_13_15 zk1_129 zft_13_1 rfl).trans ?_
  refine (R_goto (t := 14) zf29_10 rfl).trans ?_
  exact R_ireturn zf29_14 (by rw [zr_29]; rfl)
-- CannonPostModel.spotOf(Ljava/lang/String;I)I at 2
theorem q191_2_1 (d : Nat) (x0 : Int) (x1 : Int) (h : MH) : Run (d + 1) 191 2 [.inr (.inr (.inl 129)), .inl x0, .inl x1] [] h = (cI (Run d 28 0 [.inr (.inr (.inl 129))] [] h) fun a2_ h1_ => (if a2_ ≤ x1 then some (some (.inl (-1)), h1_) else (cI (Run d 11 0 [.inr (.inr (.inl 129)), .inl x1] [] h1_) fun a5_ h4_ => (if ¬ a5_ = x0 then Run (d + 1) 191 2 [.inr (.inr (.inl 129)), .inl x0, .inl (wI (x1 + 1))] [] h4_ else some (some (.inl x1), h4_))))) := by
  refine (R_iload_n zf191_2 rfl rfl).trans ?_
  refine (R_aload_n zf191_3 rfl zlt_129 rfl).trans ?_
  refine (R_vcallI zf191_4 zo_191 zvl_12_99 (by rw [zr_28]; rfl) zl_28 (Nat.le_of_ble_eq_true rfl) rfl rfl (Nat.le_of_ble_eq_true rfl) (Nat.le_of_ble_eq_true rfl) (es := [.inr (.inr (.inl 129))]) rfl rfl zk1_129 zo_28).trans ?_
  refine congrArg (cI _) (funext fun a2_ => funext fun h1_ => ?_)
  refine (R_icmp_ge (t := 27) zf191_7 rfl rfl).trans ?_
  refine ite_congr rfl (fun c3_ => ?_) (fun c3_ => ?_)
  · refine (R_iconst zf191_27 zw_m1 rfl).trans ?_
    exact R_ireturn_i zf191_28 zr_191
  · refine (R_aload_n zf191_10 rfl zlt_129 rfl).trans ?_
    refine (R_iload_n zf191_11 rfl rfl).trans ?_
    refine (R_vcallI zf191_12 zo_191 zvl_12_105 (by rw [zr_11]; rfl) zl_11 (Nat.le_of_ble_eq_true rfl) rfl rfl (Nat.le_of_ble_eq_true rfl) (Nat.le_of_ble_eq_true rfl) (es := [.inr (.inr (.inl 129)), .inl x1]) rfl rfl zk1_129 zo_11).trans ?_
    refine congrArg (cI _) (funext fun a5_ => funext fun h4_ => ?_)
    refine (R_iload_n zf191_15 rfl rfl).trans ?_
    refine (R_icmp_ne (t := 21) zf191_16 rfl rfl).trans ?_
    refine ite_congr rfl (fun c6_ => ?_) (fun c6_ => ?_)
    · refine (R_iinc (ls' := [.inr (.inr (.inl 129)), .inl x0, .inl (wI (x1 + 1))]) zf191_21 rfl rfl rfl).trans ?_
      refine (R_goto (t := 2) zf191_24 rfl).trans ?_
      rfl
    · refine (R_iload_n zf191_19 rfl rfl).trans ?_
      exact R_ireturn_i zf191_20 zr_191
-- CannonPostModel.leastOf(II)I at 0
theorem q193_0 (d : Nat) (x0 : Int) (x1 : Int) (h : MH) : Run d 193 0 [.inl x0, .inl x1] [] h = (if ¬ x0 = 115 then (if ¬ x0 = 99 then some (some (.inl 0), h) else (if ¬ x1 = 0 then some (some (.inl 0), h) else some (some (.inl 1), h))) else (if x1 = 3 then some (some (.inl 1), h) else (if ¬ x0 = 99 then some (some (.inl 0), h) else (if ¬ x1 = 0 then some (some (.inl 0), h) else some (some (.inl 1), h))))) := by
  refine (R_iload_n zf193_0 rfl rfl).trans ?_
  refine (R_bipush zf193_1 zb_115 rfl).trans ?_
  refine (R_icmp_ne (t := 11) zf193_3 rfl rfl).trans ?_
  refine ite_congr rfl (fun c1_ => ?_) (fun c1_ => ?_)
  · refine (R_iload_n zf193_11 rfl rfl).trans ?_
    refine (R_bipush zf193_12 zb_99 rfl).trans ?_
    refine (R_icmp_ne (t := 25) zf193_14 rfl rfl).trans ?_
    refine ite_congr rfl (fun c2_ => ?_) (fun c2_ => ?_)
    · refine (R_iconst zf193_25 zw_0 rfl).trans ?_
      exact R_ireturn_i zf193_26 zr_193
    · refine (R_iload_n zf193_17 rfl rfl).trans ?_
      refine (R_if_ne (t := 25) zf193_18 rfl rfl).trans ?_
      refine ite_congr rfl (fun c3_ => ?_) (fun c3_ => ?_)
      · refine (R_iconst zf193_25 zw_0 rfl).trans ?_
        exact R_ireturn_i zf193_26 zr_193
      · refine (R_iconst zf193_21 zw_1 rfl).trans ?_
        refine (R_goto (t := 26) zf193_22 rfl).trans ?_
        exact R_ireturn_i zf193_26 zr_193
  · refine (R_iload_n zf193_6 rfl rfl).trans ?_
    refine (R_iconst zf193_7 zw_3 rfl).trans ?_
    refine (R_icmp_eq (t := 21) zf193_8 rfl rfl).trans ?_
    refine ite_congr rfl (fun c4_ => ?_) (fun c4_ => ?_)
    · refine (R_iconst zf193_21 zw_1 rfl).trans ?_
      refine (R_goto (t := 26) zf193_22 rfl).trans ?_
      exact R_ireturn_i zf193_26 zr_193
    · refine (R_iload_n zf193_11 rfl rfl).trans ?_
      refine (R_bipush zf193_12 zb_99 rfl).trans ?_
      refine (R_icmp_ne (t := 25) zf193_14 rfl rfl).trans ?_
      refine ite_congr rfl (fun c5_ => ?_) (fun c5_ => ?_)
      · refine (R_iconst zf193_25 zw_0 rfl).trans ?_
        exact R_ireturn_i zf193_26 zr_193
      · refine (R_iload_n zf193_17 rfl rfl).trans ?_
        refine (R_if_ne (t := 25) zf193_18 rfl rfl).trans ?_
        refine ite_congr rfl (fun c6_ => ?_) (fun c6_ => ?_)
        · refine (R_iconst zf193_25 zw_0 rfl).trans ?_
          exact R_ireturn_i zf193_26 zr_193
        · refine (R_iconst zf193_21 zw_1 rfl).trans ?_
          refine (R_goto (t := 26) zf193_22 rfl).trans ?_
          exact R_ireturn_i zf193_26 zr_193
-- CannonPostModel.mostOf(II)I at 0
theorem q194_0 (d : Nat) (x0 : Int) (x1 : Int) (h : MH) : Run d 194 0 [.inl x0, .inl x1] [] h = (if ¬ x0 = 115 then (if ¬ x0 = 102 then (if ¬ x1 = 2 then some (some (.inl 9), h) else some (some (.inl 7), h)) else (if ¬ x1 = 0 then some (some (.inl 9), h) else some (some (.inl 40), h))) else (if ¬ x1 = 0 then (if ¬ x1 = 1 then (if ¬ x1 = 2 then some (some (.inl 6), h) else some (some (.inl 99), h)) else some (some (.inl 1), h)) else some (some (.inl 9), h))) := by
  refine (R_iload_n zf194_0 rfl rfl).trans ?_
  refine (R_bipush zf194_1 zb_115 rfl).trans ?_
  refine (R_icmp_ne (t := 37) zf194_3 rfl rfl).trans ?_
  refine ite_congr rfl (fun c1_ => ?_) (fun c1_ => ?_)
  · refine (R_iload_n zf194_37 rfl rfl).trans ?_
    refine (R_bipush zf194_38 zb_102 rfl).trans ?_
    refine (R_icmp_ne (t := 55) zf194_40 rfl rfl).trans ?_
    refine ite_congr rfl (fun c2_ => ?_) (fun c2_ => ?_)
    · refine (R_iload_n zf194_55 rfl rfl).trans ?_
      refine (R_iconst zf194_56 zw_2 rfl).trans ?_
      refine (R_icmp_ne (t := 65) zf194_57 rfl rfl).trans ?_
      refine ite_congr rfl (fun c3_ => ?_) (fun c3_ => ?_)
      · refine (R_bipush zf194_65 zb_9 rfl).trans ?_
        exact R_ireturn_i zf194_67 zr_194
      · refine (R_bipush zf194_60 zb_7 rfl).trans ?_
        refine (R_goto (t := 67) zf194_62 rfl).trans ?_
        exact R_ireturn_i zf194_67 zr_194
    · refine (R_iload_n zf194_43 rfl rfl).trans ?_
      refine (R_if_ne (t := 52) zf194_44 rfl rfl).trans ?_
      refine ite_congr rfl (fun c4_ => ?_) (fun c4_ => ?_)
      · refine (R_bipush zf194_52 zb_9 rfl).trans ?_
        exact R_ireturn_i zf194_54 zr_194
      · refine (R_bipush zf194_47 zb_40 rfl).trans ?_
        refine (R_goto (t := 54) zf194_49 rfl).trans ?_
        exact R_ireturn_i zf194_54 zr_194
  · refine (R_iload_n zf194_6 rfl rfl).trans ?_
    refine (R_if_ne (t := 15) zf194_7 rfl rfl).trans ?_
    refine ite_congr rfl (fun c5_ => ?_) (fun c5_ => ?_)
    · refine (R_iload_n zf194_15 rfl rfl).trans ?_
      refine (R_iconst zf194_16 zw_1 rfl).trans ?_
      refine (R_icmp_ne (t := 24) zf194_17 rfl rfl).trans ?_
      refine ite_congr rfl (fun c6_ => ?_) (fun c6_ => ?_)
      · refine (R_iload_n zf194_24 rfl rfl).trans ?_
        refine (R_iconst zf194_25 zw_2 rfl).trans ?_
        refine (R_icmp_ne (t := 34) zf194_26 rfl rfl).trans ?_
        refine ite_congr rfl (fun c7_ => ?_) (fun c7_ => ?_)
        · refine (R_bipush zf194_34 zb_6 rfl).trans ?_
          exact R_ireturn_i zf194_36 zr_194
        · refine (R_bipush zf194_29 zb_99 rfl).trans ?_
          refine (R_goto (t := 36) zf194_31 rfl).trans ?_
          exact R_ireturn_i zf194_36 zr_194
      · refine (R_iconst zf194_20 zw_1 rfl).trans ?_
        refine (R_goto (t := 36) zf194_21 rfl).trans ?_
        exact R_ireturn_i zf194_36 zr_194
    · refine (R_bipush zf194_10 zb_9 rfl).trans ?_
      refine (R_goto (t := 36) zf194_12 rfl).trans ?_
      exact R_ireturn_i zf194_36 zr_194
-- CannonPostModel.number(II)I at 0
theorem q195_0 (d : Nat) (x0 : Int) (x1 : Int) (h : MH) : Run (d + 1) 195 0 [.inr (.inr (.inl 97)), .inl x0, .inl x1, vU, vU] [] h = (cI (Run d 188 0 [.inr (.inr (.inl 97))] [] h) fun a2_ h1_ => (cI (Run d 196 0 [.inr (.inr (.inl 97))] [] h1_) fun a4_ h3_ => (if ¬ a4_ = 0 then (cI (Run d 196 0 [.inr (.inr (.inl 97))] [] (up h3_ 97 10 (wI ((h3_ 97 10) + 1)))) fun a7_ h6_ => (if a7_ = 0 then Run (d + 1) 195 67 [.inr (.inr (.inl 97)), .inl x0, .inl x1, .inl a2_, .inl (wI (a2_ - 48))] [] h6_ else (cI (Run d 197 0 [.inr (.inr (.inl 97))] [] h6_) fun a10_ h9_ => Run (d + 1) 195 67 [.inr (.inr (.inl 97)), .inl x0, .inl x1, .inl a2_, .inl (wI ((wI ((wI (10 * (wI (a2_ - 48)))) + a10_)) - 48))] [] (up h9_ 97 10 (wI ((h9_ 97 10) + 1)))))) else (cI (Run d 189 0 [.inr (.inr (.inl 97))] [] h3_) fun a12_ h11_ => some (some (.inl 0), h11_))))) := by
  refine (R_aload_n zf195_0 rfl zlt_97 rfl).trans ?_
  refine (R_vcallI zf195_1 zo_195 zvl_12_138 (by rw [zr_188]; rfl) zl_188 (Nat.le_of_ble_eq_true rfl) rfl rfl (Nat.le_of_ble_eq_true rfl) (Nat.le_of_ble_eq_true rfl) (es := [.inr (.inr (.inl 97))]) rfl rfl zk1_97 zo_188).trans ?_
  refine congrArg (cI _) (funext fun a2_ => funext fun h1_ => ?_)
  refine (R_istore_n (ls' := [.inr (.inr (.inl 97)), .inl x0, .inl x1, .inl a2_, vU]) zf195_4 (Nat.le_of_ble_eq_true rfl) rfl rfl).trans ?_
  refine (R_aload_n zf195_5 rfl zlt_97 rfl).trans ?_
  refine (R_vcallI zf195_6 zo_195 zvl_12_168 (by rw [zr_196]; rfl) zl_196 (Nat.le_of_ble_eq_true rfl) rfl rfl (Nat.le_of_ble_eq_true rfl) (Nat.le_of_ble_eq_true rfl) (es := [.inr (.inr (.inl 97))]) rfl rfl zk1_97 zo_196).trans ?_
  refine congrArg (cI _) (funext fun a4_ => funext fun h3_ => ?_)
  refine (R_if_ne (t := 19) zf195_9 rfl rfl).trans ?_
  refine ite_congr rfl (fun c5_ => ?_) (fun c5_ => ?_)
  · refine (R_iload_n zf195_19 rfl rfl).trans ?_
    refine (R_bipush zf195_20 zb_48 rfl).trans ?_
    refine (R_isub zf195_22 rfl).trans ?_
    refine (R_istore (ls' := [.inr (.inr (.inl 97)), .inl x0, .inl x1, .inl a2_, .inl (wI (a2_ - 48))]) zf195_23 (Nat.le_of_ble_eq_true rfl) rfl rfl).trans ?_
    refine (R_aload_n zf195_25 rfl zlt_97 rfl).trans ?_
    refine (R_dup zf195_26 rfl rfl).trans ?_
    refine (R_getI zf195_27 zo_195 zfl_12_119 zk1_97 zft_12_10 rfl).trans ?_
    refine (R_iconst zf195_30 zw_1 rfl).trans ?_
    refine (R_iadd zf195_31 rfl).trans ?_
    refine (R_putI zf195_32 zo_195 zfl_12_119 zk1_97 zft_12_10 rfl).trans ?_
    refine (R_aload_n zf195_35 rfl zlt_97 rfl).trans ?_
    refine (R_vcallI zf195_36 zo_195 zvl_12_168 (by rw [zr_196]; rfl) zl_196 (Nat.le_of_ble_eq_true rfl) rfl rfl (Nat.le_of_ble_eq_true rfl) (Nat.le_of_ble_eq_true rfl) (es := [.inr (.inr (.inl 97))]) rfl rfl zk1_97 zo_196).trans ?_
    refine congrArg (cI _) (funext fun a7_ => funext fun h6_ => ?_)
    refine (R_if_eq (t := 67) zf195_39 rfl rfl).trans ?_
    refine ite_congr rfl (fun c8_ => ?_) (fun c8_ => ?_)
    · rfl
    · refine (R_bipush zf195_42 zb_10 rfl).trans ?_
      refine (R_iload zf195_44 rfl rfl).trans ?_
      refine (R_imul zf195_46 rfl).trans ?_
      refine (R_aload_n zf195_47 rfl zlt_97 rfl).trans ?_
      refine (R_vcallI zf195_48 zo_195 zvl_12_214 (by rw [zr_197]; rfl) zl_197 (Nat.le_of_ble_eq_true rfl) rfl rfl (Nat.le_of_ble_eq_true rfl) (Nat.le_of_ble_eq_true rfl) (es := [.inr (.inr (.inl 97))]) rfl rfl zk1_97 zo_197).trans ?_
      refine congrArg (cI _) (funext fun a10_ => funext fun h9_ => ?_)
      refine (R_iadd zf195_51 rfl).trans ?_
      refine (R_bipush zf195_52 zb_48 rfl).trans ?_
      refine (R_isub zf195_54 rfl).trans ?_
      refine (R_istore (ls' := [.inr (.inr (.inl 97)), .inl x0, .inl x1, .inl a2_, .inl (wI ((wI ((wI (10 * (wI (a2_ - 48)))) + a10_)) - 48))]) zf195_55 (Nat.le_of_ble_eq_true rfl) rfl rfl).trans ?_
      refine (R_aload_n zf195_57 rfl zlt_97 rfl).trans ?_
      refine (R_dup zf195_58 rfl rfl).trans ?_
      refine (R_getI zf195_59 zo_195 zfl_12_119 zk1_97 zft_12_10 rfl).trans ?_
      refine (R_iconst zf195_62 zw_1 rfl).trans ?_
      refine (R_iadd zf195_63 rfl).trans ?_
      refine (R_putI zf195_64 zo_195 zfl_12_119 zk1_97 zft_12_10 rfl).trans ?_
      rfl
  · refine (R_aload_n zf195_12 rfl zlt_97 rfl).trans ?_
    refine (R_vcallI zf195_13 zo_195 zvl_12_134 (by rw [zr_189]; rfl) zl_189 (Nat.le_of_ble_eq_true rfl) rfl rfl (Nat.le_of_ble_eq_true rfl) (Nat.le_of_ble_eq_true rfl) (es := [.inr (.inr (.inl 97))]) rfl rfl zk1_97 zo_189).trans ?_
    refine congrArg (cI _) (funext fun a12_ => funext fun h11_ => ?_)
    refine (R_pop zf195_16 rfl rfl).trans ?_
    refine (R_iconst zf195_17 zw_0 rfl).trans ?_
    exact R_ireturn_i zf195_18 zr_195
-- java/lang/String.coder()B at 0
theorem q29_0_3 (d : Nat) (h : MH) : Run d 29 0 [.inr (.inr (.inl 128))] [] h = some (some (.inl 0), h) := by
  refine (R_getsI (u := 1) zf29_0 zo_29 zgl_13_38 rfl rfl).trans ?_
  refine ((R_if_eq (t := 13) zf29_3 rfl rfl).trans (if_neg (by decide))).trans ?_
  refine (R_aload_n zf29_6 rfl zlt_128 rfl).trans ?_
  refine (R_getC zf29_7 zo_29 zfl_13_15 zk1_128 zft_13_1 rfl).trans ?_
  refine (R_goto (t := 14) zf29_10 rfl).trans ?_
  exact R_ireturn zf29_14 (by rw [zr_29]; rfl)
-- CannonPostModel.spotOf(Ljava/lang/String;I)I at 2
theorem q191_2_2 (d : Nat) (x0 : Int) (x1 : Int) (h : MH) : Run (d + 1) 191 2 [.inr (.inr (.inl 128)), .inl x0, .inl x1] [] h = (cI (Run d 28 0 [.inr (.inr (.inl 128))] [] h) fun a2_ h1_ => (if a2_ ≤ x1 then some (some (.inl (-1)), h1_) else (cI (Run d 11 0 [.inr (.inr (.inl 128)), .inl x1] [] h1_) fun a5_ h4_ => (if ¬ a5_ = x0 then Run (d + 1) 191 2 [.inr (.inr (.inl 128)), .inl x0, .inl (wI (x1 + 1))] [] h4_ else some (some (.inl x1), h4_))))) := by
  refine (R_iload_n zf191_2 rfl rfl).trans ?_
  refine (R_aload_n zf191_3 rfl zlt_128 rfl).trans ?_
  refine (R_vcallI zf191_4 zo_191 zvl_12_99 (by rw [zr_28]; rfl) zl_28 (Nat.le_of_ble_eq_true rfl) rfl rfl (Nat.le_of_ble_eq_true rfl) (Nat.le_of_ble_eq_true rfl) (es := [.inr (.inr (.inl 128))]) rfl rfl zk1_128 zo_28).trans ?_
  refine congrArg (cI _) (funext fun a2_ => funext fun h1_ => ?_)
  refine (R_icmp_ge (t := 27) zf191_7 rfl rfl).trans ?_
  refine ite_congr rfl (fun c3_ => ?_) (fun c3_ => ?_)
  · refine (R_iconst zf191_27 zw_m1 rfl).trans ?_
    exact R_ireturn_i zf191_28 zr_191
  · refine (R_aload_n zf191_10 rfl zlt_128 rfl).trans ?_
    refine (R_iload_n zf191_11 rfl rfl).trans ?_
    refine (R_vcallI zf191_12 zo_191 zvl_12_105 (by rw [zr_11]; rfl) zl_11 (Nat.le_of_ble_eq_true rfl) rfl rfl (Nat.le_of_ble_eq_true rfl) (Nat.le_of_ble_eq_true rfl) (es := [.inr (.inr (.inl 128)), .inl x1]) rfl rfl zk1_128 zo_11).trans ?_
    refine congrArg (cI _) (funext fun a5_ => funext fun h4_ => ?_)
    refine (R_iload_n zf191_15 rfl rfl).trans ?_
    refine (R_icmp_ne (t := 21) zf191_16 rfl rfl).trans ?_
    refine ite_congr rfl (fun c6_ => ?_) (fun c6_ => ?_)
    · refine (R_iinc (ls' := [.inr (.inr (.inl 128)), .inl x0, .inl (wI (x1 + 1))]) zf191_21 rfl rfl rfl).trans ?_
      refine (R_goto (t := 2) zf191_24 rfl).trans ?_
      rfl
    · refine (R_iload_n zf191_19 rfl rfl).trans ?_
      exact R_ireturn_i zf191_20 zr_191
-- java/lang/String.coder()B at 0
theorem q29_0_4 (d : Nat) (h : MH) : Run d 29 0 [.inr (.inr (.inl 127))] [] h = some (some (.inl 0), h) := by
  refine (R_getsI (u := 1) zf29_0 zo_29 zgl_13_38 rfl rfl).trans ?_
  refine ((R_if_eq (t := 13) zf29_3 rfl rfl).trans (if_neg (by decide))).trans ?_
  refine (R_aload_n zf29_6 rfl zlt_127 rfl).trans ?_
  refine (R_getC zf29_7 zo_29 zfl_13_15 zk1_127 zft_13_1 rfl).trans ?_
  refine (R_goto (t := 14) zf29_10 rfl).trans ?_
  exact R_ireturn zf29_14 (by rw [zr_29]; rfl)
-- CannonPostModel.spotOf(Ljava/lang/String;I)I at 2
theorem q191_2_3 (d : Nat) (x0 : Int) (x1 : Int) (h : MH) : Run (d + 1) 191 2 [.inr (.inr (.inl 127)), .inl x0, .inl x1] [] h = (cI (Run d 28 0 [.inr (.inr (.inl 127))] [] h) fun a2_ h1_ => (if a2_ ≤ x1 then some (some (.inl (-1)), h1_) else (cI (Run d 11 0 [.inr (.inr (.inl 127)), .inl x1] [] h1_) fun a5_ h4_ => (if ¬ a5_ = x0 then Run (d + 1) 191 2 [.inr (.inr (.inl 127)), .inl x0, .inl (wI (x1 + 1))] [] h4_ else some (some (.inl x1), h4_))))) := by
  refine (R_iload_n zf191_2 rfl rfl).trans ?_
  refine (R_aload_n zf191_3 rfl zlt_127 rfl).trans ?_
  refine (R_vcallI zf191_4 zo_191 zvl_12_99 (by rw [zr_28]; rfl) zl_28 (Nat.le_of_ble_eq_true rfl) rfl rfl (Nat.le_of_ble_eq_true rfl) (Nat.le_of_ble_eq_true rfl) (es := [.inr (.inr (.inl 127))]) rfl rfl zk1_127 zo_28).trans ?_
  refine congrArg (cI _) (funext fun a2_ => funext fun h1_ => ?_)
  refine (R_icmp_ge (t := 27) zf191_7 rfl rfl).trans ?_
  refine ite_congr rfl (fun c3_ => ?_) (fun c3_ => ?_)
  · refine (R_iconst zf191_27 zw_m1 rfl).trans ?_
    exact R_ireturn_i zf191_28 zr_191
  · refine (R_aload_n zf191_10 rfl zlt_127 rfl).trans ?_
    refine (R_iload_n zf191_11 rfl rfl).trans ?_
    refine (R_vcallI zf191_12 zo_191 zvl_12_105 (by rw [zr_11]; rfl) zl_11 (Nat.le_of_ble_eq_true rfl) rfl rfl (Nat.le_of_ble_eq_true rfl) (Nat.le_of_ble_eq_true rfl) (es := [.inr (.inr (.inl 127)), .inl x1]) rfl rfl zk1_127 zo_11).trans ?_
    refine congrArg (cI _) (funext fun a5_ => funext fun h4_ => ?_)
    refine (R_iload_n zf191_15 rfl rfl).trans ?_
    refine (R_icmp_ne (t := 21) zf191_16 rfl rfl).trans ?_
    refine ite_congr rfl (fun c6_ => ?_) (fun c6_ => ?_)
    · refine (R_iinc (ls' := [.inr (.inr (.inl 127)), .inl x0, .inl (wI (x1 + 1))]) zf191_21 rfl rfl rfl).trans ?_
      refine (R_goto (t := 2) zf191_24 rfl).trans ?_
      rfl
    · refine (R_iload_n zf191_19 rfl rfl).trans ?_
      exact R_ireturn_i zf191_20 zr_191
-- java/lang/String.isLatin1()Z at 0
theorem q12_0_3 (d : Nat) (h : MH) : Run d 12 0 [.inr (.inr (.inl 124))] [] h = some (some (.inl 1), h) := by
  refine (R_getsI (u := 1) zf12_0 zo_12 zgl_13_38 rfl rfl).trans ?_
  refine ((R_if_eq (t := 17) zf12_3 rfl rfl).trans (if_neg (by decide))).trans ?_
  refine (R_aload_n zf12_6 rfl zlt_124 rfl).trans ?_
  refine (R_getC zf12_7 zo_12 zfl_13_15 zk1_124 zft_13_1 rfl).trans ?_
  refine ((R_if_ne (t := 17) zf12_10 rfl rfl).trans (if_neg (by decide))).trans ?_
  refine (R_iconst zf12_13 zw_1 rfl).trans ?_
  refine (R_goto (t := 18) zf12_14 rfl).trans ?_
  exact R_ireturn zf12_18 (by rw [zr_12]; rfl)
-- java/lang/StringLatin1.charAt([BI)C at 0
theorem q13_0_2 (d : Nat) (x0 : Int) (h : MH) : Run (d + 1) 13 0 [.inr (.inr (.inl 131)), .inl x0] [] h = (cV (Run d 14 0 [.inl x0, .inl 10] [] h) fun h1_ => (if 0 ≤ x0 ∧ x0 < 10 then (if 0 ≤ (toC (iAnd (ro 131 x0.toNat) 255)) ∧ (toC (iAnd (ro 131 x0.toNat) 255)) ≤ 65535 then some (some (.inl (toC (iAnd (ro 131 x0.toNat) 255))), h1_) else none) else none)) := by
  refine (R_iload_n zf13_0 rfl rfl).trans ?_
  refine (R_aload_n zf13_1 rfl zlt_131 rfl).trans ?_
  refine (R_len111 (v := 10) zf13_2 zk_131 rfl rfl).trans ?_
  refine (R_callV zf13_3 zo_13 zsl_14_9 zr_14 zl_14 (Nat.le_of_ble_eq_true rfl) rfl rfl (Nat.le_of_ble_eq_true rfl) (Nat.le_of_ble_eq_true rfl) (es := [.inl x0, .inl 10]) rfl rfl).trans ?_
  refine congrArg (cV _) (funext fun h1_ => ?_)
  refine (R_aload_n zf13_6 rfl zlt_131 rfl).trans ?_
  refine (R_iload_n zf13_7 rfl rfl).trans ?_
  refine (R_bald111 zf13_8 zk_131 rfl).trans ?_
  refine ite_congr rfl (fun c2_ => ?_) (fun _ => rfl)
  refine (R_sipush zf13_9 zs_255 rfl).trans ?_
  refine (R_iand zf13_12 rfl).trans ?_
  refine (R_i2c zf13_13 rfl).trans ?_
  exact R_ireturn_c zf13_14 zr_13
-- java/lang/String.coder()B at 0
theorem q29_0_5 (d : Nat) (h : MH) : Run d 29 0 [.inr (.inr (.inl 125))] [] h = some (some (.inl 0), h) := by
  refine (R_getsI (u := 1) zf29_0 zo_29 zgl_13_38 rfl rfl).trans ?_
  refine ((R_if_eq (t := 13) zf29_3 rfl rfl).trans (if_neg (by decide))).trans ?_
  refine (R_aload_n zf29_6 rfl zlt_125 rfl).trans ?_
  refine (R_getC zf29_7 zo_29 zfl_13_15 zk1_125 zft_13_1 rfl).trans ?_
  refine (R_goto (t := 14) zf29_10 rfl).trans ?_
  exact R_ireturn zf29_14 (by rw [zr_29]; rfl)
-- java/lang/StringLatin1.canEncode(I)Z at 0
theorem q31_0 (d : Nat) (x0 : Int) (h : MH) : Run d 31 0 [.inl x0] [] h = (if x0 < 0 then some (some (.inl 0), h) else (if 255 < x0 then some (some (.inl 0), h) else some (some (.inl 1), h))) := by
  refine (R_iload_n zf31_0 rfl rfl).trans ?_
  refine (R_if_lt (t := 15) zf31_1 rfl rfl).trans ?_
  refine ite_congr rfl (fun c1_ => ?_) (fun c1_ => ?_)
  · refine (R_iconst zf31_15 zw_0 rfl).trans ?_
    exact R_ireturn zf31_16 (by rw [zr_31]; rfl)
  · refine (R_iload_n zf31_4 rfl rfl).trans ?_
    refine (R_sipush zf31_5 zs_255 rfl).trans ?_
    refine (R_icmp_gt (t := 15) zf31_8 rfl rfl).trans ?_
    refine ite_congr rfl (fun c2_ => ?_) (fun c2_ => ?_)
    · refine (R_iconst zf31_15 zw_0 rfl).trans ?_
      exact R_ireturn zf31_16 (by rw [zr_31]; rfl)
    · refine (R_iconst zf31_11 zw_1 rfl).trans ?_
      refine (R_goto (t := 16) zf31_12 rfl).trans ?_
      exact R_ireturn zf31_16 (by rw [zr_31]; rfl)
-- java/lang/StringLatin1.indexOfChar([BIII)I at 0
theorem q32_0 (d : Nat) (x0 : Int) (x1 : Int) (x2 : Int) (h : MH) : Run d 32 0 [.inr (.inr (.inl 132)), .inl x0, .inl x1, .inl x2, vU, vU] [] h = Run d 32 7 [.inr (.inr (.inl 132)), .inl x0, .inl x1, .inl x2, .inl (toB x0), .inl x1] [] h := by
  refine (R_iload_n zf32_0 rfl rfl).trans ?_
  refine (R_i2b zf32_1 rfl).trans ?_
  refine (R_istore (ls' := [.inr (.inr (.inl 132)), .inl x0, .inl x1, .inl x2, .inl (toB x0), vU]) zf32_2 (Nat.le_of_ble_eq_true rfl) rfl rfl).trans ?_
  refine (R_iload_n zf32_4 rfl rfl).trans ?_
  refine (R_istore (ls' := [.inr (.inr (.inl 132)), .inl x0, .inl x1, .inl x2, .inl (toB x0), .inl x1]) zf32_5 (Nat.le_of_ble_eq_true rfl) rfl rfl).trans ?_
  rfl
-- java/lang/StringLatin1.charAt([BI)C at 0
theorem q13_0_3 (d : Nat) (x0 : Int) (h : MH) : Run (d + 1) 13 0 [.inr (.inr (.inl 132)), .inl x0] [] h = (cV (Run d 14 0 [.inl x0, .inl 6] [] h) fun h1_ => (if 0 ≤ x0 ∧ x0 < 6 then (if 0 ≤ (toC (iAnd (ro 132 x0.toNat) 255)) ∧ (toC (iAnd (ro 132 x0.toNat) 255)) ≤ 65535 then some (some (.inl (toC (iAnd (ro 132 x0.toNat) 255))), h1_) else none) else none)) := by
  refine (R_iload_n zf13_0 rfl rfl).trans ?_
  refine (R_aload_n zf13_1 rfl zlt_132 rfl).trans ?_
  refine (R_len111 (v := 6) zf13_2 zk_132 rfl rfl).trans ?_
  refine (R_callV zf13_3 zo_13 zsl_14_9 zr_14 zl_14 (Nat.le_of_ble_eq_true rfl) rfl rfl (Nat.le_of_ble_eq_true rfl) (Nat.le_of_ble_eq_true rfl) (es := [.inl x0, .inl 6]) rfl rfl).trans ?_
  refine congrArg (cV _) (funext fun h1_ => ?_)
  refine (R_aload_n zf13_6 rfl zlt_132 rfl).trans ?_
  refine (R_iload_n zf13_7 rfl rfl).trans ?_
  refine (R_bald111 zf13_8 zk_132 rfl).trans ?_
  refine ite_congr rfl (fun c2_ => ?_) (fun _ => rfl)
  refine (R_sipush zf13_9 zs_255 rfl).trans ?_
  refine (R_iand zf13_12 rfl).trans ?_
  refine (R_i2c zf13_13 rfl).trans ?_
  exact R_ireturn_c zf13_14 zr_13
-- java/lang/String.charAt(I)C at 0
theorem q11_0_4 (d : Nat) (x0 : Int) (h : MH) : Run (d + 1) 11 0 [.inr (.inr (.inl 129)), .inl x0] [] h = (cI (Run d 12 0 [.inr (.inr (.inl 129))] [] h) fun a2_ h1_ => (if a2_ = 0 then Run (d + 1) 11 21 [.inr (.inr (.inl 129)), .inl x0] [.inl x0, .inr (.inr (.inl 136))] h1_ else (cI (Run d 13 0 [.inr (.inr (.inl 136)), .inl x0] [] h1_) fun a5_ h4_ => (if 0 ≤ a5_ ∧ a5_ ≤ 65535 then some (some (.inl a5_), h4_) else none)))) := by
  refine (R_aload_n zf11_0 rfl zlt_129 rfl).trans ?_
  refine (R_vcallI zf11_1 zo_11 zvl_13_492 (by rw [zr_12]; rfl) zl_12 (Nat.le_of_ble_eq_true rfl) rfl rfl (Nat.le_of_ble_eq_true rfl) (Nat.le_of_ble_eq_true rfl) (es := [.inr (.inr (.inl 129))]) rfl rfl zk1_129 zo_12).trans ?_
  refine congrArg (cI _) (funext fun a2_ => funext fun h1_ => ?_)
  refine (R_if_eq (t := 16) zf11_4 rfl rfl).trans ?_
  refine ite_congr rfl (fun c3_ => ?_) (fun c3_ => ?_)
  · refine (R_aload_n zf11_16 rfl zlt_129 rfl).trans ?_
    refine (R_getR zf11_17 zo_11 zfl_13_9 zk1_129 zft_13_0 zmr_129_0 rfl).trans ?_
    refine (R_iload_n zf11_20 rfl rfl).trans ?_
    rfl
  · refine (R_aload_n zf11_7 rfl zlt_129 rfl).trans ?_
    refine (R_getR zf11_8 zo_11 zfl_13_9 zk1_129 zft_13_0 zmr_129_0 rfl).trans ?_
    refine (R_iload_n zf11_11 rfl rfl).trans ?_
    refine (R_callI zf11_12 zo_11 zsl_13_495 (by rw [zr_13]; rfl) zl_13 (Nat.le_of_ble_eq_true rfl) rfl rfl (Nat.le_of_ble_eq_true rfl) (Nat.le_of_ble_eq_true rfl) (es := [.inr (.inr (.inl 136)), .inl x0]) rfl rfl).trans ?_
    refine congrArg (cI _) (funext fun a5_ => funext fun h4_ => ?_)
    exact R_ireturn_c zf11_15 zr_11
-- CannonPostModel.number(II)I at 67
theorem q195_67 (d : Nat) (x0 : Int) (x1 : Int) (z2 : MV) (hz2 : cat z2 = 1) (x3 : Int) (h : MH) : Run (d + 1) 195 67 [.inr (.inr (.inl 97)), .inl x0, .inl x1, z2, .inl x3] [] h = (cI (Run d 196 0 [.inr (.inr (.inl 97))] [] h) fun a2_ h1_ => (if a2_ = 0 then (cI (Run d 183 0 [.inr (.inl x3), vU, .inr (.inl x0), vU, .inr (.inl x1), vU] [] h1_) fun a5_ h4_ => (if ¬ a5_ = 0 then some (some (.inl x3), h4_) else (cI (Run d 189 0 [.inr (.inr (.inl 97))] [] (up h4_ 97 10 (wI ((h4_ 97 10) - 1)))) fun a8_ h7_ => some (some (.inl x3), h7_)))) else (cI (Run d 189 0 [.inr (.inr (.inl 97))] [] h1_) fun a10_ h9_ => some (some (.inl 0), h9_)))) := by
  refine (R_aload_n zf195_67 rfl zlt_97 rfl).trans ?_
  refine (R_vcallI zf195_68 zo_195 zvl_12_168 (by rw [zr_196]; rfl) zl_196 (Nat.le_of_ble_eq_true rfl) rfl rfl (Nat.le_of_ble_eq_true rfl) (Nat.le_of_ble_eq_true rfl) (es := [.inr (.inr (.inl 97))]) rfl rfl zk1_97 zo_196).trans ?_
  refine congrArg (cI _) (funext fun a2_ => funext fun h1_ => ?_)
  refine (R_if_eq (t := 81) zf195_71 rfl rfl).trans ?_
  refine ite_congr rfl (fun c3_ => ?_) (fun c3_ => ?_)
  · refine (R_iload zf195_81 rfl rfl).trans ?_
    refine (R_i2l zf195_83 rfl).trans ?_
    refine (R_iload_n zf195_84 rfl rfl).trans ?_
    refine (R_i2l zf195_85 rfl).trans ?_
    refine (R_iload_n zf195_86 rfl rfl).trans ?_
    refine (R_i2l zf195_87 rfl).trans ?_
    refine (R_callI zf195_88 zo_195 zsl_12_217 (by rw [zr_183]; rfl) zl_183 (Nat.le_of_ble_eq_true rfl) rfl rfl (Nat.le_of_ble_eq_true rfl) (Nat.le_of_ble_eq_true rfl) (es := [.inr (.inl x3), vU, .inr (.inl x0), vU, .inr (.inl x1), vU]) rfl rfl).trans ?_
    refine congrArg (cI _) (funext fun a5_ => funext fun h4_ => ?_)
    refine (R_if_ne (t := 109) zf195_91 rfl rfl).trans ?_
    refine ite_congr rfl (fun c6_ => ?_) (fun c6_ => ?_)
    · refine (R_iload zf195_109 rfl rfl).trans ?_
      exact R_ireturn_i zf195_111 zr_195
    · refine (R_aload_n zf195_94 rfl zlt_97 rfl).trans ?_
      refine (R_dup zf195_95 rfl rfl).trans ?_
      refine (R_getI zf195_96 zo_195 zfl_12_119 zk1_97 zft_12_10 rfl).trans ?_
      refine (R_iconst zf195_99 zw_1 rfl).trans ?_
      refine (R_isub zf195_100 rfl).trans ?_
      refine (R_putI zf195_101 zo_195 zfl_12_119 zk1_97 zft_12_10 rfl).trans ?_
      refine (R_aload_n zf195_104 rfl zlt_97 rfl).trans ?_
      refine (R_vcallI zf195_105 zo_195 zvl_12_134 (by rw [zr_189]; rfl) zl_189 (Nat.le_of_ble_eq_true rfl) rfl rfl (Nat.le_of_ble_eq_true rfl) (Nat.le_of_ble_eq_true rfl) (es := [.inr (.inr (.inl 97))]) rfl rfl zk1_97 zo_189).trans ?_
      refine congrArg (cI _) (funext fun a8_ => funext fun h7_ => ?_)
      refine (R_pop zf195_108 rfl rfl).trans ?_
      refine (R_iload zf195_109 rfl rfl).trans ?_
      exact R_ireturn_i zf195_111 zr_195
  · refine (R_aload_n zf195_74 rfl zlt_97 rfl).trans ?_
    refine (R_vcallI zf195_75 zo_195 zvl_12_134 (by rw [zr_189]; rfl) zl_189 (Nat.le_of_ble_eq_true rfl) rfl rfl (Nat.le_of_ble_eq_true rfl) (Nat.le_of_ble_eq_true rfl) (es := [.inr (.inr (.inl 97))]) rfl rfl zk1_97 zo_189).trans ?_
    refine congrArg (cI _) (funext fun a10_ => funext fun h9_ => ?_)
    refine (R_pop zf195_78 rfl rfl).trans ?_
    refine (R_iconst zf195_79 zw_0 rfl).trans ?_
    exact R_ireturn_i zf195_80 zr_195
-- CannonPostModel.here()I at 0
theorem q197_0 (d : Nat) (h : MH) : Run d 197 0 [.inr (.inr (.inl 97))] [] h = (if (h 97 9) ≤ (h 97 10) then some (some (.inl (-1)), h) else (if h 97 5 = 98 then (if 0 ≤ (wI ((h 97 8) + (h 97 10))) ∧ (wI ((h 97 8) + (h 97 10))) < 240 then some (some (.inl (iAnd (h 98 (wI ((h 97 8) + (h 97 10))).toNat) 255)), h) else none) else (if h 97 5 = 99 then (if 0 ≤ (wI ((h 97 8) + (h 97 10))) ∧ (wI ((h 97 8) + (h 97 10))) < 960 then some (some (.inl (iAnd (h 99 (wI ((h 97 8) + (h 97 10))).toNat) 255)), h) else none) else Run d 197 12 [.inr (.inr (.inl 97))] [.inr (.inr (.inl 97))] h))) := by
  refine (R_aload_n zf197_0 rfl zlt_97 rfl).trans ?_
  refine (R_getI zf197_1 zo_197 zfl_12_119 zk1_97 zft_12_10 rfl).trans ?_
  refine (R_aload_n zf197_4 rfl zlt_97 rfl).trans ?_
  refine (R_getI zf197_5 zo_197 zfl_12_122 zk1_97 zft_12_9 rfl).trans ?_
  refine (R_icmp_ge (t := 32) zf197_8 rfl rfl).trans ?_
  refine ite_congr rfl (fun c1_ => ?_) (fun c1_ => ?_)
  · refine (R_iconst zf197_32 zw_m1 rfl).trans ?_
    exact R_ireturn_i zf197_33 zr_197
  · refine (R_aload_n zf197_11 rfl zlt_97 rfl).trans ?_
    refine (switch_if (c := h 97 5 = 98) (fun c2_ => ?_) (fun c2_ => ?_))
    · refine (R_getMc (b := 98) zf197_12 zo_197 zfl_12_23 zk1_97 zft_12_5 c2_ rfl rfl).trans ?_
      refine (R_aload_n zf197_15 rfl zlt_97 rfl).trans ?_
      refine (R_getI zf197_16 zo_197 zfl_12_125 zk1_97 zft_12_8 rfl).trans ?_
      refine (R_aload_n zf197_19 rfl zlt_97 rfl).trans ?_
      refine (R_getI zf197_20 zo_197 zfl_12_119 zk1_97 zft_12_10 rfl).trans ?_
      refine (R_iadd zf197_23 rfl).trans ?_
      refine (R_bald zf197_24 zk_98 rfl).trans ?_
      refine ite_congr rfl (fun c3_ => ?_) (fun _ => rfl)
      refine (R_sipush zf197_25 zs_255 rfl).trans ?_
      refine (R_iand zf197_28 rfl).trans ?_
      refine (R_goto (t := 33) zf197_29 rfl).trans ?_
      exact R_ireturn_i zf197_33 zr_197
    refine (switch_if (c := h 97 5 = 99) (fun c4_ => ?_) (fun c4_ => ?_))
    · refine (R_getMc (b := 99) zf197_12 zo_197 zfl_12_23 zk1_97 zft_12_5 c4_ rfl rfl).trans ?_
      refine (R_aload_n zf197_15 rfl zlt_97 rfl).trans ?_
      refine (R_getI zf197_16 zo_197 zfl_12_125 zk1_97 zft_12_8 rfl).trans ?_
      refine (R_aload_n zf197_19 rfl zlt_97 rfl).trans ?_
      refine (R_getI zf197_20 zo_197 zfl_12_119 zk1_97 zft_12_10 rfl).trans ?_
      refine (R_iadd zf197_23 rfl).trans ?_
      refine (R_bald zf197_24 zk_99 rfl).trans ?_
      refine ite_congr rfl (fun c5_ => ?_) (fun _ => rfl)
      refine (R_sipush zf197_25 zs_255 rfl).trans ?_
      refine (R_iand zf197_28 rfl).trans ?_
      refine (R_goto (t := 33) zf197_29 rfl).trans ?_
      exact R_ireturn_i zf197_33 zr_197
    rfl
-- java/lang/String.charAt(I)C at 0
theorem q11_0_5 (d : Nat) (x0 : Int) (h : MH) : Run (d + 1) 11 0 [.inr (.inr (.inl 128)), .inl x0] [] h = (cI (Run d 12 0 [.inr (.inr (.inl 128))] [] h) fun a2_ h1_ => (if a2_ = 0 then Run (d + 1) 11 21 [.inr (.inr (.inl 128)), .inl x0] [.inl x0, .inr (.inr (.inl 135))] h1_ else (cI (Run d 13 0 [.inr (.inr (.inl 135)), .inl x0] [] h1_) fun a5_ h4_ => (if 0 ≤ a5_ ∧ a5_ ≤ 65535 then some (some (.inl a5_), h4_) else none)))) := by
  refine (R_aload_n zf11_0 rfl zlt_128 rfl).trans ?_
  refine (R_vcallI zf11_1 zo_11 zvl_13_492 (by rw [zr_12]; rfl) zl_12 (Nat.le_of_ble_eq_true rfl) rfl rfl (Nat.le_of_ble_eq_true rfl) (Nat.le_of_ble_eq_true rfl) (es := [.inr (.inr (.inl 128))]) rfl rfl zk1_128 zo_12).trans ?_
  refine congrArg (cI _) (funext fun a2_ => funext fun h1_ => ?_)
  refine (R_if_eq (t := 16) zf11_4 rfl rfl).trans ?_
  refine ite_congr rfl (fun c3_ => ?_) (fun c3_ => ?_)
  · refine (R_aload_n zf11_16 rfl zlt_128 rfl).trans ?_
    refine (R_getR zf11_17 zo_11 zfl_13_9 zk1_128 zft_13_0 zmr_128_0 rfl).trans ?_
    refine (R_iload_n zf11_20 rfl rfl).trans ?_
    rfl
  · refine (R_aload_n zf11_7 rfl zlt_128 rfl).trans ?_
    refine (R_getR zf11_8 zo_11 zfl_13_9 zk1_128 zft_13_0 zmr_128_0 rfl).trans ?_
    refine (R_iload_n zf11_11 rfl rfl).trans ?_
    refine (R_callI zf11_12 zo_11 zsl_13_495 (by rw [zr_13]; rfl) zl_13 (Nat.le_of_ble_eq_true rfl) rfl rfl (Nat.le_of_ble_eq_true rfl) (Nat.le_of_ble_eq_true rfl) (es := [.inr (.inr (.inl 135)), .inl x0]) rfl rfl).trans ?_
    refine congrArg (cI _) (funext fun a5_ => funext fun h4_ => ?_)
    exact R_ireturn_c zf11_15 zr_11
-- java/lang/String.charAt(I)C at 0
theorem q11_0_6 (d : Nat) (x0 : Int) (h : MH) : Run (d + 1) 11 0 [.inr (.inr (.inl 127)), .inl x0] [] h = (cI (Run d 12 0 [.inr (.inr (.inl 127))] [] h) fun a2_ h1_ => (if a2_ = 0 then Run (d + 1) 11 21 [.inr (.inr (.inl 127)), .inl x0] [.inl x0, .inr (.inr (.inl 134))] h1_ else (cI (Run d 13 0 [.inr (.inr (.inl 134)), .inl x0] [] h1_) fun a5_ h4_ => (if 0 ≤ a5_ ∧ a5_ ≤ 65535 then some (some (.inl a5_), h4_) else none)))) := by
  refine (R_aload_n zf11_0 rfl zlt_127 rfl).trans ?_
  refine (R_vcallI zf11_1 zo_11 zvl_13_492 (by rw [zr_12]; rfl) zl_12 (Nat.le_of_ble_eq_true rfl) rfl rfl (Nat.le_of_ble_eq_true rfl) (Nat.le_of_ble_eq_true rfl) (es := [.inr (.inr (.inl 127))]) rfl rfl zk1_127 zo_12).trans ?_
  refine congrArg (cI _) (funext fun a2_ => funext fun h1_ => ?_)
  refine (R_if_eq (t := 16) zf11_4 rfl rfl).trans ?_
  refine ite_congr rfl (fun c3_ => ?_) (fun c3_ => ?_)
  · refine (R_aload_n zf11_16 rfl zlt_127 rfl).trans ?_
    refine (R_getR zf11_17 zo_11 zfl_13_9 zk1_127 zft_13_0 zmr_127_0 rfl).trans ?_
    refine (R_iload_n zf11_20 rfl rfl).trans ?_
    rfl
  · refine (R_aload_n zf11_7 rfl zlt_127 rfl).trans ?_
    refine (R_getR zf11_8 zo_11 zfl_13_9 zk1_127 zft_13_0 zmr_127_0 rfl).trans ?_
    refine (R_iload_n zf11_11 rfl rfl).trans ?_
    refine (R_callI zf11_12 zo_11 zsl_13_495 (by rw [zr_13]; rfl) zl_13 (Nat.le_of_ble_eq_true rfl) rfl rfl (Nat.le_of_ble_eq_true rfl) (Nat.le_of_ble_eq_true rfl) (es := [.inr (.inr (.inl 134)), .inl x0]) rfl rfl).trans ?_
    refine congrArg (cI _) (funext fun a5_ => funext fun h4_ => ?_)
    exact R_ireturn_c zf11_15 zr_11
-- java/lang/StringLatin1.indexOfChar([BIII)I at 7
theorem q32_7 (d : Nat) (z0 : MV) (hz0 : cat z0 = 1) (z1 : MV) (hz1 : cat z1 = 1) (x2 : Int) (x3 : Int) (x4 : Int) (h : MH) : Run d 32 7 [.inr (.inr (.inl 132)), z0, z1, .inl x2, .inl x3, .inl x4] [] h = (if x2 ≤ x4 then some (some (.inl (-1)), h) else (if 0 ≤ x4 ∧ x4 < 6 then (if ¬ (ro 132 x4.toNat) = x3 then Run d 32 7 [.inr (.inr (.inl 132)), z0, z1, .inl x2, .inl x3, .inl (wI (x4 + 1))] [] h else some (some (.inl x4), h)) else none)) := by
  refine (R_iload zf32_7 rfl rfl).trans ?_
  refine (R_iload_n zf32_9 rfl rfl).trans ?_
  refine (R_icmp_ge (t := 31) zf32_10 rfl rfl).trans ?_
  refine ite_congr rfl (fun c1_ => ?_) (fun c1_ => ?_)
  · refine (R_iconst zf32_31 zw_m1 rfl).trans ?_
    exact R_ireturn_i zf32_32 zr_32
  · refine (R_aload_n zf32_13 rfl zlt_132 rfl).trans ?_
    refine (R_iload zf32_14 rfl rfl).trans ?_
    refine (R_bald111 zf32_16 zk_132 rfl).trans ?_
    refine ite_congr rfl (fun c2_ => ?_) (fun _ => rfl)
    refine (R_iload zf32_17 rfl rfl).trans ?_
    refine (R_icmp_ne (t := 25) zf32_19 rfl rfl).trans ?_
    refine ite_congr rfl (fun c3_ => ?_) (fun c3_ => ?_)
    · refine (R_iinc (ls' := [.inr (.inr (.inl 132)), z0, z1, .inl x2, .inl x3, .inl (wI (x4 + 1))]) zf32_25 rfl rfl rfl).trans ?_
      refine (R_goto (t := 7) zf32_28 rfl).trans ?_
      rfl
    · refine (R_iload zf32_22 rfl rfl).trans ?_
      exact R_ireturn_i zf32_24 zr_32
-- java/lang/String.isLatin1()Z at 0
theorem q12_0_4 (d : Nat) (h : MH) : Run d 12 0 [.inr (.inr (.inl 129))] [] h = some (some (.inl 1), h) := by
  refine (R_getsI (u := 1) zf12_0 zo_12 zgl_13_38 rfl rfl).trans ?_
  refine ((R_if_eq (t := 17) zf12_3 rfl rfl).trans (if_neg (by decide))).trans ?_
  refine (R_aload_n zf12_6 rfl zlt_129 rfl).trans ?_
  refine (R_getC zf12_7 zo_12 zfl_13_15 zk1_129 zft_13_1 rfl).trans ?_
  refine ((R_if_ne (t := 17) zf12_10 rfl rfl).trans (if_neg (by decide))).trans ?_
  refine (R_iconst zf12_13 zw_1 rfl).trans ?_
  refine (R_goto (t := 18) zf12_14 rfl).trans ?_
  exact R_ireturn zf12_18 (by rw [zr_12]; rfl)
-- java/lang/StringLatin1.charAt([BI)C at 0
theorem q13_0_4 (d : Nat) (x0 : Int) (h : MH) : Run (d + 1) 13 0 [.inr (.inr (.inl 136)), .inl x0] [] h = (cV (Run d 14 0 [.inl x0, .inl 3] [] h) fun h1_ => (if 0 ≤ x0 ∧ x0 < 3 then (if 0 ≤ (toC (iAnd (ro 136 x0.toNat) 255)) ∧ (toC (iAnd (ro 136 x0.toNat) 255)) ≤ 65535 then some (some (.inl (toC (iAnd (ro 136 x0.toNat) 255))), h1_) else none) else none)) := by
  refine (R_iload_n zf13_0 rfl rfl).trans ?_
  refine (R_aload_n zf13_1 rfl zlt_136 rfl).trans ?_
  refine (R_len111 (v := 3) zf13_2 zk_136 rfl rfl).trans ?_
  refine (R_callV zf13_3 zo_13 zsl_14_9 zr_14 zl_14 (Nat.le_of_ble_eq_true rfl) rfl rfl (Nat.le_of_ble_eq_true rfl) (Nat.le_of_ble_eq_true rfl) (es := [.inl x0, .inl 3]) rfl rfl).trans ?_
  refine congrArg (cV _) (funext fun h1_ => ?_)
  refine (R_aload_n zf13_6 rfl zlt_136 rfl).trans ?_
  refine (R_iload_n zf13_7 rfl rfl).trans ?_
  refine (R_bald111 zf13_8 zk_136 rfl).trans ?_
  refine ite_congr rfl (fun c2_ => ?_) (fun _ => rfl)
  refine (R_sipush zf13_9 zs_255 rfl).trans ?_
  refine (R_iand zf13_12 rfl).trans ?_
  refine (R_i2c zf13_13 rfl).trans ?_
  exact R_ireturn_c zf13_14 zr_13
-- java/lang/String.isLatin1()Z at 0
theorem q12_0_5 (d : Nat) (h : MH) : Run d 12 0 [.inr (.inr (.inl 128))] [] h = some (some (.inl 1), h) := by
  refine (R_getsI (u := 1) zf12_0 zo_12 zgl_13_38 rfl rfl).trans ?_
  refine ((R_if_eq (t := 17) zf12_3 rfl rfl).trans (if_neg (by decide))).trans ?_
  refine (R_aload_n zf12_6 rfl zlt_128 rfl).trans ?_
  refine (R_getC zf12_7 zo_12 zfl_13_15 zk1_128 zft_13_1 rfl).trans ?_
  refine ((R_if_ne (t := 17) zf12_10 rfl rfl).trans (if_neg (by decide))).trans ?_
  refine (R_iconst zf12_13 zw_1 rfl).trans ?_
  refine (R_goto (t := 18) zf12_14 rfl).trans ?_
  exact R_ireturn zf12_18 (by rw [zr_12]; rfl)
-- java/lang/StringLatin1.charAt([BI)C at 0
theorem q13_0_5 (d : Nat) (x0 : Int) (h : MH) : Run (d + 1) 13 0 [.inr (.inr (.inl 135)), .inl x0] [] h = (cV (Run d 14 0 [.inl x0, .inl 3] [] h) fun h1_ => (if 0 ≤ x0 ∧ x0 < 3 then (if 0 ≤ (toC (iAnd (ro 135 x0.toNat) 255)) ∧ (toC (iAnd (ro 135 x0.toNat) 255)) ≤ 65535 then some (some (.inl (toC (iAnd (ro 135 x0.toNat) 255))), h1_) else none) else none)) := by
  refine (R_iload_n zf13_0 rfl rfl).trans ?_
  refine (R_aload_n zf13_1 rfl zlt_135 rfl).trans ?_
  refine (R_len111 (v := 3) zf13_2 zk_135 rfl rfl).trans ?_
  refine (R_callV zf13_3 zo_13 zsl_14_9 zr_14 zl_14 (Nat.le_of_ble_eq_true rfl) rfl rfl (Nat.le_of_ble_eq_true rfl) (Nat.le_of_ble_eq_true rfl) (es := [.inl x0, .inl 3]) rfl rfl).trans ?_
  refine congrArg (cV _) (funext fun h1_ => ?_)
  refine (R_aload_n zf13_6 rfl zlt_135 rfl).trans ?_
  refine (R_iload_n zf13_7 rfl rfl).trans ?_
  refine (R_bald111 zf13_8 zk_135 rfl).trans ?_
  refine ite_congr rfl (fun c2_ => ?_) (fun _ => rfl)
  refine (R_sipush zf13_9 zs_255 rfl).trans ?_
  refine (R_iand zf13_12 rfl).trans ?_
  refine (R_i2c zf13_13 rfl).trans ?_
  exact R_ireturn_c zf13_14 zr_13
-- java/lang/String.isLatin1()Z at 0
theorem q12_0_6 (d : Nat) (h : MH) : Run d 12 0 [.inr (.inr (.inl 127))] [] h = some (some (.inl 1), h) := by
  refine (R_getsI (u := 1) zf12_0 zo_12 zgl_13_38 rfl rfl).trans ?_
  refine ((R_if_eq (t := 17) zf12_3 rfl rfl).trans (if_neg (by decide))).trans ?_
  refine (R_aload_n zf12_6 rfl zlt_127 rfl).trans ?_
  refine (R_getC zf12_7 zo_12 zfl_13_15 zk1_127 zft_13_1 rfl).trans ?_
  refine ((R_if_ne (t := 17) zf12_10 rfl rfl).trans (if_neg (by decide))).trans ?_
  refine (R_iconst zf12_13 zw_1 rfl).trans ?_
  refine (R_goto (t := 18) zf12_14 rfl).trans ?_
  exact R_ireturn zf12_18 (by rw [zr_12]; rfl)
-- java/lang/StringLatin1.charAt([BI)C at 0
theorem q13_0_6 (d : Nat) (x0 : Int) (h : MH) : Run (d + 1) 13 0 [.inr (.inr (.inl 134)), .inl x0] [] h = (cV (Run d 14 0 [.inl x0, .inl 4] [] h) fun h1_ => (if 0 ≤ x0 ∧ x0 < 4 then (if 0 ≤ (toC (iAnd (ro 134 x0.toNat) 255)) ∧ (toC (iAnd (ro 134 x0.toNat) 255)) ≤ 65535 then some (some (.inl (toC (iAnd (ro 134 x0.toNat) 255))), h1_) else none) else none)) := by
  refine (R_iload_n zf13_0 rfl rfl).trans ?_
  refine (R_aload_n zf13_1 rfl zlt_134 rfl).trans ?_
  refine (R_len111 (v := 4) zf13_2 zk_134 rfl rfl).trans ?_
  refine (R_callV zf13_3 zo_13 zsl_14_9 zr_14 zl_14 (Nat.le_of_ble_eq_true rfl) rfl rfl (Nat.le_of_ble_eq_true rfl) (Nat.le_of_ble_eq_true rfl) (es := [.inl x0, .inl 4]) rfl rfl).trans ?_
  refine congrArg (cV _) (funext fun h1_ => ?_)
  refine (R_aload_n zf13_6 rfl zlt_134 rfl).trans ?_
  refine (R_iload_n zf13_7 rfl rfl).trans ?_
  refine (R_bald111 zf13_8 zk_134 rfl).trans ?_
  refine ite_congr rfl (fun c2_ => ?_) (fun _ => rfl)
  refine (R_sipush zf13_9 zs_255 rfl).trans ?_
  refine (R_iand zf13_12 rfl).trans ?_
  refine (R_i2c zf13_13 rfl).trans ?_
  exact R_ireturn_c zf13_14 zr_13
