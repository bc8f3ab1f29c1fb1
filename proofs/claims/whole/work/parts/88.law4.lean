/-! the law's loop -/
theorem and63 (x : Int) : 0 ≤ iAnd x 63 ∧ iAnd x 63 ≤ 63 := by
  have e : iAnd x 63 = (BitVec.ofInt 32 x &&& 63#32).toInt := rfl
  have h1 : (BitVec.ofInt 32 x &&& 63#32).toNat ≤ 63 := by
    rw [BitVec.toNat_and]
    exact Nat.and_le_right
  rw [e, BitVec.toInt_eq_toNat_of_lt (by omega)]
  omega
section LAWE
variable {p : Program} {l : Launch} {e : Env} {R : Room} {s : State} {m : MethodId} {args : Array Value} {below : List Frame} {meth : Method} {c : Code} {cells slots : Nat} {Q : State → Prop} {w : WP} {A : Nat → Prop}
set_option maxRecDepth 100000 in
theorem ca_16 (K : LX p R s m args c cells slots w A) {i : Nat} {z5 z6 : MV} {h : MH} (hn : i + 7 ≤ w.2.2.2.2.2) (hm : w.2.2.2.2.2 ≤ 2147483647) {b : Int} {Ws : Nat → WF} (iv : InvX b Ws h) (hb : b ≤ 600000) (g : ∀ h2 Ws2, InvX (b + 60) Ws2 h2 → Wt p l e R s m args below meth c cells slots Q w A nMe 2098 (lsH i z5 z6) [] h2) : Wt p l e R s m args below meth c cells slots Q w A nMe 827 (lsH i z5 z6) [] h := by
  obtain ⟨v, h1, h2, W2, r1, r2, i2⟩ := (c_decades iv (by omega) (w.2.2.2.2.1 (i + 1)) (lOr (lShl (w.2.2.2.2.1 (i + 2)) 32) (lAnd (w.2.2.2.2.1 (i + 3)) 4294967295))).E
  have lc : mL 101 = 7 := by decide +kernel
  have lm : mL 248 = 9 := by decide +kernel
  have o19 : mO nMe = 19 := by decide +kernel
  refine L_aload_n K (by decide +kernel : fetch nMe 827 = some (.aload_n 1, 1)) rfl (by decide) rfl ?_
  refine L_arg K hn hm (cc := 1) (by omega) (by decide +kernel) ?_
  refine L_arg K hn hm (pc := 834) (cc := 2) (by omega) (by decide +kernel) ?_
  refine L_i2l K (by decide +kernel : fetch nMe 840 = some (.i2l, 1)) rfl ?_
  refine L_bipush K (by decide +kernel : fetch nMe 841 = some (.bipush 32, 2)) (v := 32) (by decide) rfl ?_
  refine L_lshl K (by decide +kernel : fetch nMe 843 = some (.lshl, 1)) rfl ?_
  refine L_arg K hn hm (pc := 844) (cc := 3) (by omega) (by decide +kernel) ?_
  refine L_i2l K (by decide +kernel : fetch nMe 850 = some (.i2l, 1)) rfl ?_
  refine L_ldc2_w K (by decide +kernel : fetch nMe 851 = some (.ldc2_w 94, 3)) o19 (by decide +kernel : ll 19 94 = some 4294967295) rfl ?_
  refine L_land K (by decide +kernel : fetch nMe 854 = some (.land, 1)) rfl ?_
  refine L_lor K (by decide +kernel : fetch nMe 855 = some (.lor, 1)) rfl ?_
  refine L_vcall K (by decide +kernel : fetch nMe 856 = some (.invokevirtual 96, 3)) o19 (by decide +kernel : vl 19 96 = some (101, 2)) (v := v) (h2 := h1) (vs := [.inl (w.2.2.2.2.1 (i + 1)), .inr (.inl (lOr (lShl (w.2.2.2.2.1 (i + 2)) 32) (lAnd (w.2.2.2.2.1 (i + 3)) 4294967295)))]) (by show 2 ≤ 3; omega) rfl rfl (by decide) (by rw [lc]; show 4 ≤ 7; omega) (by decide +kernel) rfl (by rw [ent_eq9 lc rfl]; exact r1) ?_
  refine L_aload_n K (by decide +kernel : fetch nMe 859 = some (.aload_n 2, 1)) rfl (by decide) rfl ?_
  refine L_arg K hn hm (cc := 1) (by omega) (by decide +kernel) ?_
  refine L_arg K hn hm (pc := 866) (cc := 2) (by omega) (by decide +kernel) ?_
  refine L_i2l K (by decide +kernel : fetch nMe 872 = some (.i2l, 1)) rfl ?_
  refine L_bipush K (by decide +kernel : fetch nMe 873 = some (.bipush 32, 2)) (v := 32) (by decide) rfl ?_
  refine L_lshl K (by decide +kernel : fetch nMe 875 = some (.lshl, 1)) rfl ?_
  refine L_arg K hn hm (pc := 876) (cc := 3) (by omega) (by decide +kernel) ?_
  refine L_i2l K (by decide +kernel : fetch nMe 882 = some (.i2l, 1)) rfl ?_
  refine L_ldc2_w K (by decide +kernel : fetch nMe 883 = some (.ldc2_w 94, 3)) o19 (by decide +kernel : ll 19 94 = some 4294967295) rfl ?_
  refine L_land K (by decide +kernel : fetch nMe 886 = some (.land, 1)) rfl ?_
  refine L_lor K (by decide +kernel : fetch nMe 887 = some (.lor, 1)) rfl ?_
  refine L_vcall K (by decide +kernel : fetch nMe 888 = some (.invokevirtual 100, 3)) o19 (by decide +kernel : vl 19 100 = some (248, 2)) (v := v) (h2 := h2) (vs := [.inl (w.2.2.2.2.1 (i + 1)), .inr (.inl (lOr (lShl (w.2.2.2.2.1 (i + 2)) 32) (lAnd (w.2.2.2.2.1 (i + 3)) 4294967295)))]) (by show 2 ≤ 4; omega) rfl rfl (by show 1 + 0 ≤ 8; omega) (by rw [lm]; show 4 ≤ 9; omega) (by decide +kernel) rfl (by rw [ent_eq9 lm rfl]; exact r2) ?_
  exact L_icmp_eq_t K (by decide +kernel : fetch nMe 891 = some (.if_icmp .eq 1207, 3)) (by decide) rfl (g h2 W2 i2)
set_option maxRecDepth 100000 in
theorem L_bool (K : LX p R s m args c cells slots w A) {pc : Nat} {ls st : List MV} {h : MH} {x : Int} (f0 : fetch nMe pc = some (.ifCond .eq 7, 3)) (f1 : fetch nMe (pc + 3) = some (.iconst 1, 1)) (f2 : fetch nMe (pc + 4) = some (.goto 4, 3)) (f3 : fetch nMe (pc + 7) = some (.iconst 0, 1)) (g : Wt p l e R s m args below meth c cells slots Q w A nMe (pc + 8) ls (.inl (bi (¬ x = 0)) :: st) h) : Wt p l e R s m args below meth c cells slots Q w A nMe pc ls (.inl x :: st) h := by
  by_cases z : x = 0
  · refine L_if_eq_t K f0 (pc' := pc + 7) (by omega) z ?_
    refine L_iconst K f3 (v := 0) (by decide) rfl ?_
    rw [bi_f (fun y => y z)] at g
    exact g
  · refine L_if_eq_f K f0 (t := pc + 7) (by omega) rfl z ?_
    refine L_iconst K f1 (v := 1) (by decide) rfl ?_
    refine L_goto K f2 (pc' := pc + 8) (by omega) ?_
    rw [bi_t z] at g
    exact g
set_option maxRecDepth 100000 in
theorem ca_35 (K : LX p R s m args c cells slots w A) {i : Nat} {z5 z6 : MV} {h : MH} (hn : i + 7 ≤ w.2.2.2.2.2) (hm : w.2.2.2.2.2 ≤ 2147483647) {b : Int} {Ws : Nat → WF} (iv : InvX b Ws h) (hb : b ≤ 600000) (g : ∀ h2 Ws2, InvX b Ws2 h2 → Wt p l e R s m args below meth c cells slots Q w A nMe 2098 (lsH i z5 z6) [] h2) : Wt p l e R s m args below meth c cells slots Q w A nMe 1696 (lsH i z5 z6) [] h := by
  obtain ⟨v, h1, h2, W2, r1, r2, i2⟩ := (Pr_X iv (c_face iv.1.1 (w.2.2.2.2.1 (i + 1)) (bi (¬ w.2.2.2.2.1 (i + 2) = 0)) (bi_01 _))).E
  have lc : mL 156 = 3 := by decide +kernel
  have lm : mL 289 = 3 := by decide +kernel
  have o19 : mO nMe = 19 := by decide +kernel
  refine L_aload_n K (by decide +kernel : fetch nMe 1696 = some (.aload_n 1, 1)) rfl (by decide) rfl ?_
  refine L_arg K hn hm (pc := 1697) (cc := 1) (by omega) (by decide +kernel) ?_
  refine L_arg K hn hm (pc := 1703) (cc := 2) (by omega) (by decide +kernel) ?_
  refine L_bool K (pc := 1709) (by decide +kernel) (by decide +kernel) (by decide +kernel) (by decide +kernel) ?_
  refine L_vcall K (by decide +kernel : fetch nMe 1717 = some (.invokevirtual 175, 3)) o19 (by decide +kernel : vl 19 175 = some (156, 2)) (v := v) (h2 := h1) (vs := [.inl (w.2.2.2.2.1 (i + 1)), .inl (bi (¬ w.2.2.2.2.1 (i + 2) = 0))]) (by show 2 ≤ 3; omega) rfl rfl (by decide) (by rw [lc]; show 3 ≤ 3; omega) (by decide +kernel) rfl (by rw [ent_eq9 lc rfl]; exact r1) ?_
  refine L_aload_n K (by decide +kernel : fetch nMe 1720 = some (.aload_n 2, 1)) rfl (by decide) rfl ?_
  refine L_arg K hn hm (pc := 1721) (cc := 1) (by omega) (by decide +kernel) ?_
  refine L_arg K hn hm (pc := 1727) (cc := 2) (by omega) (by decide +kernel) ?_
  refine L_bool K (pc := 1733) (by decide +kernel) (by decide +kernel) (by decide +kernel) (by decide +kernel) ?_
  refine L_vcall K (by decide +kernel : fetch nMe 1741 = some (.invokevirtual 179, 3)) o19 (by decide +kernel : vl 19 179 = some (289, 2)) (v := v) (h2 := h2) (vs := [.inl (w.2.2.2.2.1 (i + 1)), .inl (bi (¬ w.2.2.2.2.1 (i + 2) = 0))]) (by show 2 ≤ 4; omega) rfl rfl (by show 1 + 0 ≤ 8; omega) (by rw [lm]; show 3 ≤ 3; omega) (by decide +kernel) rfl (by rw [ent_eq9 lm rfl]; exact r2) ?_
  exact L_icmp_eq_t K (by decide +kernel : fetch nMe 1744 = some (.if_icmp .eq 354, 3)) (by decide) rfl (g h2 W2 i2)
end LAWE
