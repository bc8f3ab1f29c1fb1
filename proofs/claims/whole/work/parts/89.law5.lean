/-! the law's loop, all calls -/
section LAWF
variable {p : Program} {l : Launch} {e : Env} {R : Room} {s : State} {m : MethodId} {args : Array Value} {below : List Frame} {meth : Method} {c : Code} {cells slots : Nat} {Q : State → Prop} {w : WP} {A : Nat → Prop}
theorem Wt_wide {k1 k2 n1 n2 k pc : Nat} {ls st : List MV} {h : MH} (h1 : k1 ≤ k2) (h2 : n1 ≤ n2) (g : Wt p l e R s m args below meth c k2 n2 Q w A k pc ls st h) : Wt p l e R s m args below meth c k1 n1 Q w A k pc ls st h := fun lsA H locs a1 a2 a3 a4 a5 => W.widen h1 h2 (g lsA H locs a1 a2 a3 a4 a5)
set_option maxRecDepth 100000 in
theorem L_next (K : LX p R s m args c cells slots w A) {i : Nat} {z5 z6 : MV} {h : MH} (hi : i ≤ 2147483000) (g : Wt p l e R s m args below meth c cells slots Q w A nMe 23 (lsH (i + 7) z5 z6) [] h) : Wt p l e R s m args below meth c cells slots Q w A nMe 2098 (lsH i z5 z6) [] h := by
  refine L_iinc K (by decide +kernel : fetch nMe 2098 = some (.iinc 4 7, 3)) (x := (i : Int)) rfl (ls' := lsH (i + 7) z5 z6) ?_ rfl ?_
  · rw [wI_ok (by omega) (by omega)]
    rfl
  · exact L_goto K (by decide +kernel : fetch nMe 2101 = some (.goto (-2078), 3)) (pc' := 23) (by decide) g
set_option maxRecDepth 100000 in
theorem L_disp (K : LX p R s m args c cells slots w A) {i : Nat} {z5 z6 : MV} {h : MH} {b : Int} {Ws : Nat → WF} (hn : i + 7 ≤ w.2.2.2.2.2) (hm : w.2.2.2.2.2 ≤ 2147483000) (iv : InvX b Ws h) (hb : b ≤ 600000) {x : Int} (x0 : 0 ≤ x ∧ x ≤ 63) (c6 : Wt p l e R s m args below meth c cells slots Q w A nMe 462 (lsH i z5 z6) [] h) (g : ∀ b2 h2 Ws2 z5 z6, b2 ≤ b + 144 → InvX b2 Ws2 h2 → Wt p l e R s m args below meth c cells slots Q w A nMe 2098 (lsH i z5 z6) [] h2) : Wt p l e R s m args below meth c cells slots Q w A nMe 40 (lsH i z5 z6) [.inl x] h := by
  have hm2 : w.2.2.2.2.2 ≤ 2147483647 := by omega
  have f40 : fetch nMe 40 = some (.tableswitch 2058 0 48 #[212, 285, 310, 335, 360, 385, 422, 490, 515, 540, 601, 638, 675, 700, 737, 762, 787, 856, 869, 906, 955, 992, 1017, 1090, 1139, 1200, 1249, 1298, 1335, 1408, 1433, 1470, 1483, 1508, 1595, 1656, 1709, 1734, 1747, 1772, 1797, 1834, 1847, 1872, 1897, 1970, 2007, 2020, 2033], 212) := by decide +kernel
  by_cases q0 : x = 0
  · subst q0
    refine L_tsw K f40 (by omega) (q := 212) (by decide) (pc' := 252) (by decide) ?_
    exact ca_0 K hn hm2 iv hb (fun h2 Ws2 i2 => g _ h2 Ws2 _ _ (by omega) i2)
  by_cases q1 : x = 1
  · subst q1
    refine L_tsw K f40 (by omega) (q := 285) (by decide) (pc' := 325) (by decide) ?_
    exact ca_1 K hn hm2 iv hb (fun h2 Ws2 i2 => g _ h2 Ws2 _ _ (by omega) i2)
  by_cases q2 : x = 2
  · subst q2
    refine L_tsw K f40 (by omega) (q := 310) (by decide) (pc' := 350) (by decide) ?_
    exact ca_2 K hn hm2 iv hb (fun h2 Ws2 i2 => g _ h2 Ws2 _ _ (by omega) i2)
  by_cases q3 : x = 3
  · subst q3
    refine L_tsw K f40 (by omega) (q := 335) (by decide) (pc' := 375) (by decide) ?_
    exact ca_3 K hn hm2 iv hb (fun h2 Ws2 i2 => g _ h2 Ws2 _ _ (by omega) i2)
  by_cases q4 : x = 4
  · subst q4
    refine L_tsw K f40 (by omega) (q := 360) (by decide) (pc' := 400) (by decide) ?_
    exact ca_4 K hn hm2 iv hb (fun h2 Ws2 i2 => g _ h2 Ws2 _ _ (by omega) i2)
  by_cases q5 : x = 5
  · subst q5
    refine L_tsw K f40 (by omega) (q := 385) (by decide) (pc' := 425) (by decide) ?_
    exact ca_5 K hn hm2 iv hb (fun h2 Ws2 i2 => g _ h2 Ws2 _ _ (by omega) i2)
  by_cases q6 : x = 6
  · subst q6
    refine L_tsw K f40 (by omega) (q := 422) (by decide) (pc' := 462) (by decide) ?_
    exact c6
  by_cases q7 : x = 7
  · subst q7
    refine L_tsw K f40 (by omega) (q := 490) (by decide) (pc' := 530) (by decide) ?_
    exact ca_7 K hn hm2 iv hb (fun h2 Ws2 i2 => g _ h2 Ws2 _ _ (by omega) i2)
  by_cases q8 : x = 8
  · subst q8
    refine L_tsw K f40 (by omega) (q := 515) (by decide) (pc' := 555) (by decide) ?_
    exact ca_8 K hn hm2 iv hb (fun h2 Ws2 i2 => g _ h2 Ws2 _ _ (by omega) i2)
  by_cases q9 : x = 9
  · subst q9
    refine L_tsw K f40 (by omega) (q := 540) (by decide) (pc' := 580) (by decide) ?_
    exact ca_9 K hn hm2 iv hb (fun h2 Ws2 i2 => g _ h2 Ws2 _ _ (by omega) i2)
  by_cases q10 : x = 10
  · subst q10
    refine L_tsw K f40 (by omega) (q := 601) (by decide) (pc' := 641) (by decide) ?_
    exact ca_10 K hn hm2 iv hb (fun h2 Ws2 i2 => g _ h2 Ws2 _ _ (by omega) i2)
  by_cases q11 : x = 11
  · subst q11
    refine L_tsw K f40 (by omega) (q := 638) (by decide) (pc' := 678) (by decide) ?_
    exact ca_11 K hn hm2 iv hb (fun h2 Ws2 i2 => g _ h2 Ws2 _ _ (by omega) i2)
  by_cases q12 : x = 12
  · subst q12
    refine L_tsw K f40 (by omega) (q := 675) (by decide) (pc' := 715) (by decide) ?_
    exact ca_12 K hn hm2 iv hb (fun h2 Ws2 i2 => g _ h2 Ws2 _ _ (by omega) i2)
  by_cases q13 : x = 13
  · subst q13
    refine L_tsw K f40 (by omega) (q := 700) (by decide) (pc' := 740) (by decide) ?_
    exact ca_13 K hn hm2 iv hb (fun h2 Ws2 i2 => g _ h2 Ws2 _ _ (by omega) i2)
  by_cases q14 : x = 14
  · subst q14
    refine L_tsw K f40 (by omega) (q := 737) (by decide) (pc' := 777) (by decide) ?_
    exact ca_14 K hn hm2 iv hb (fun h2 Ws2 i2 => g _ h2 Ws2 _ _ (by omega) i2)
  by_cases q15 : x = 15
  · subst q15
    refine L_tsw K f40 (by omega) (q := 762) (by decide) (pc' := 802) (by decide) ?_
    exact ca_15 K hn hm2 iv hb (fun h2 Ws2 i2 => g _ h2 Ws2 _ _ (by omega) i2)
  by_cases q16 : x = 16
  · subst q16
    refine L_tsw K f40 (by omega) (q := 787) (by decide) (pc' := 827) (by decide) ?_
    exact ca_16 K hn hm2 iv hb (fun h2 Ws2 i2 => g _ h2 Ws2 _ _ (by omega) i2)
  by_cases q17 : x = 17
  · subst q17
    refine L_tsw K f40 (by omega) (q := 856) (by decide) (pc' := 896) (by decide) ?_
    exact ca_17 K hn hm2 iv hb (fun h2 Ws2 i2 => g _ h2 Ws2 _ _ (by omega) i2)
  by_cases q18 : x = 18
  · subst q18
    refine L_tsw K f40 (by omega) (q := 869) (by decide) (pc' := 909) (by decide) ?_
    exact ca_18 K hn hm2 iv hb (fun h2 Ws2 i2 => g _ h2 Ws2 _ _ (by omega) i2)
  by_cases q19 : x = 19
  · subst q19
    refine L_tsw K f40 (by omega) (q := 906) (by decide) (pc' := 946) (by decide) ?_
    exact ca_19 K hn hm2 iv hb (fun h2 Ws2 i2 => g _ h2 Ws2 _ _ (by omega) i2)
  by_cases q20 : x = 20
  · subst q20
    refine L_tsw K f40 (by omega) (q := 955) (by decide) (pc' := 995) (by decide) ?_
    exact ca_20 K hn hm2 iv hb (fun h2 Ws2 i2 => g _ h2 Ws2 _ _ (by omega) i2)
  by_cases q21 : x = 21
  · subst q21
    refine L_tsw K f40 (by omega) (q := 992) (by decide) (pc' := 1032) (by decide) ?_
    exact ca_21 K hn hm2 iv hb (fun h2 Ws2 i2 => g _ h2 Ws2 _ _ (by omega) i2)
  by_cases q22 : x = 22
  · subst q22
    refine L_tsw K f40 (by omega) (q := 1017) (by decide) (pc' := 1057) (by decide) ?_
    exact ca_22 K hn hm2 iv hb (fun h2 Ws2 i2 => g _ h2 Ws2 _ _ (by omega) i2)
  by_cases q23 : x = 23
  · subst q23
    refine L_tsw K f40 (by omega) (q := 1090) (by decide) (pc' := 1130) (by decide) ?_
    exact ca_23 K hn hm2 iv hb (fun h2 Ws2 i2 => g _ h2 Ws2 _ _ (by omega) i2)
  by_cases q24 : x = 24
  · subst q24
    refine L_tsw K f40 (by omega) (q := 1139) (by decide) (pc' := 1179) (by decide) ?_
    exact ca_24 K hn hm2 iv hb (fun h2 Ws2 i2 => g _ h2 Ws2 _ _ (by omega) i2)
  by_cases q25 : x = 25
  · subst q25
    refine L_tsw K f40 (by omega) (q := 1200) (by decide) (pc' := 1240) (by decide) ?_
    exact ca_25 K hn hm2 iv hb (fun h2 Ws2 i2 => g _ h2 Ws2 _ _ (by omega) i2)
  by_cases q26 : x = 26
  · subst q26
    refine L_tsw K f40 (by omega) (q := 1249) (by decide) (pc' := 1289) (by decide) ?_
    exact ca_26 K hn hm2 iv hb (fun h2 Ws2 i2 => g _ h2 Ws2 _ _ (by omega) i2)
  by_cases q27 : x = 27
  · subst q27
    refine L_tsw K f40 (by omega) (q := 1298) (by decide) (pc' := 1338) (by decide) ?_
    exact ca_27 K hn hm2 iv hb (fun h2 Ws2 i2 => g _ h2 Ws2 _ _ (by omega) i2)
  by_cases q28 : x = 28
  · subst q28
    refine L_tsw K f40 (by omega) (q := 1335) (by decide) (pc' := 1375) (by decide) ?_
    exact ca_28 K hn hm2 iv hb (fun h2 Ws2 i2 => g _ h2 Ws2 _ _ (by omega) i2)
  by_cases q29 : x = 29
  · subst q29
    refine L_tsw K f40 (by omega) (q := 1408) (by decide) (pc' := 1448) (by decide) ?_
    exact ca_29 K hn hm2 iv hb (fun h2 Ws2 i2 => g _ h2 Ws2 _ _ (by omega) i2)
  by_cases q30 : x = 30
  · subst q30
    refine L_tsw K f40 (by omega) (q := 1433) (by decide) (pc' := 1473) (by decide) ?_
    exact ca_30 K hn hm2 iv hb (fun h2 Ws2 i2 => g _ h2 Ws2 _ _ (by omega) i2)
  by_cases q31 : x = 31
  · subst q31
    refine L_tsw K f40 (by omega) (q := 1470) (by decide) (pc' := 1510) (by decide) ?_
    exact ca_31 K hn hm2 iv hb (fun h2 Ws2 i2 => g _ h2 Ws2 _ _ (by omega) i2)
  by_cases q32 : x = 32
  · subst q32
    refine L_tsw K f40 (by omega) (q := 1483) (by decide) (pc' := 1523) (by decide) ?_
    exact ca_32 K hn hm2 iv hb (fun h2 Ws2 i2 => g _ h2 Ws2 _ _ (by omega) i2)
  by_cases q33 : x = 33
  · subst q33
    refine L_tsw K f40 (by omega) (q := 1508) (by decide) (pc' := 1548) (by decide) ?_
    exact ca_33 K hn hm2 iv hb (fun h2 Ws2 i2 => g _ h2 Ws2 _ _ (by omega) i2)
  by_cases q34 : x = 34
  · subst q34
    refine L_tsw K f40 (by omega) (q := 1595) (by decide) (pc' := 1635) (by decide) ?_
    exact ca_34 K hn hm2 iv hb (fun h2 Ws2 i2 => g _ h2 Ws2 _ _ (by omega) i2)
  by_cases q35 : x = 35
  · subst q35
    refine L_tsw K f40 (by omega) (q := 1656) (by decide) (pc' := 1696) (by decide) ?_
    exact ca_35 K hn hm2 iv hb (fun h2 Ws2 i2 => g _ h2 Ws2 _ _ (by omega) i2)
  by_cases q36 : x = 36
  · subst q36
    refine L_tsw K f40 (by omega) (q := 1709) (by decide) (pc' := 1749) (by decide) ?_
    exact ca_36 K hn hm2 iv hb (fun h2 Ws2 i2 => g _ h2 Ws2 _ _ (by omega) i2)
  by_cases q37 : x = 37
  · subst q37
    refine L_tsw K f40 (by omega) (q := 1734) (by decide) (pc' := 1774) (by decide) ?_
    exact ca_37 K hn hm2 iv hb (fun h2 Ws2 i2 => g _ h2 Ws2 _ _ (by omega) i2)
  by_cases q38 : x = 38
  · subst q38
    refine L_tsw K f40 (by omega) (q := 1747) (by decide) (pc' := 1787) (by decide) ?_
    exact ca_38 K hn hm2 iv hb (fun h2 Ws2 i2 => g _ h2 Ws2 _ _ (by omega) i2)
  by_cases q39 : x = 39
  · subst q39
    refine L_tsw K f40 (by omega) (q := 1772) (by decide) (pc' := 1812) (by decide) ?_
    exact ca_39 K hn hm2 iv hb (fun h2 Ws2 i2 => g _ h2 Ws2 _ _ (by omega) i2)
  by_cases q40 : x = 40
  · subst q40
    refine L_tsw K f40 (by omega) (q := 1797) (by decide) (pc' := 1837) (by decide) ?_
    exact ca_40 K hn hm2 iv hb (fun h2 Ws2 i2 => g _ h2 Ws2 _ _ (by omega) i2)
  by_cases q41 : x = 41
  · subst q41
    refine L_tsw K f40 (by omega) (q := 1834) (by decide) (pc' := 1874) (by decide) ?_
    exact ca_41 K hn hm2 iv hb (fun h2 Ws2 i2 => g _ h2 Ws2 _ _ (by omega) i2)
  by_cases q42 : x = 42
  · subst q42
    refine L_tsw K f40 (by omega) (q := 1847) (by decide) (pc' := 1887) (by decide) ?_
    exact ca_42 K hn hm2 iv hb (fun h2 Ws2 i2 => g _ h2 Ws2 _ _ (by omega) i2)
  by_cases q43 : x = 43
  · subst q43
    refine L_tsw K f40 (by omega) (q := 1872) (by decide) (pc' := 1912) (by decide) ?_
    exact ca_43 K hn hm2 iv hb (fun h2 Ws2 i2 => g _ h2 Ws2 _ _ (by omega) i2)
  by_cases q44 : x = 44
  · subst q44
    refine L_tsw K f40 (by omega) (q := 1897) (by decide) (pc' := 1937) (by decide) ?_
    exact ca_44 K hn hm2 iv hb (fun h2 Ws2 i2 => g _ h2 Ws2 _ _ (by omega) i2)
  by_cases q45 : x = 45
  · subst q45
    refine L_tsw K f40 (by omega) (q := 1970) (by decide) (pc' := 2010) (by decide) ?_
    exact ca_45 K hn hm2 iv hb (fun h2 Ws2 i2 => g _ h2 Ws2 _ _ (by omega) i2)
  by_cases q46 : x = 46
  · subst q46
    refine L_tsw K f40 (by omega) (q := 2007) (by decide) (pc' := 2047) (by decide) ?_
    exact ca_46 K hn hm2 iv hb (fun h2 Ws2 i2 => g _ h2 Ws2 _ _ (by omega) i2)
  by_cases q47 : x = 47
  · subst q47
    refine L_tsw K f40 (by omega) (q := 2020) (by decide) (pc' := 2060) (by decide) ?_
    exact ca_47 K hn hm2 iv hb (fun h2 Ws2 i2 => g _ h2 Ws2 _ _ (by omega) i2)
  by_cases q48 : x = 48
  · subst q48
    refine L_tsw K f40 (by omega) (q := 2033) (by decide) (pc' := 2073) (by decide) ?_
    exact ca_48 K hn hm2 iv hb (fun h2 Ws2 i2 => g _ h2 Ws2 _ _ (by omega) i2)
  exact L_tswD K f40 (by omega) (pc' := 2098) (by decide) (g b h Ws z5 z6 (by omega) iv)
set_option maxRecDepth 100000 in
theorem L_loop {n1 n2 M1 M2 : Nat} (K : ∀ r, LX p R s m args c (M1 - n1 * r) (M2 - n2 * r) w A) (hm : w.2.2.2.2.2 ≤ 2147483000) (c6 : ∀ (r i : Nat) (z5 z6 : MV) (h : MH) (b : Int) (Ws : Nat → WF), r < 512 → i + 7 ≤ w.2.2.2.2.2 → InvX b Ws h → b ≤ 600000 → (∀ h2 Ws2 z5 z6, InvX b Ws2 h2 → Wt p l e R s m args below meth c (M1 - n1 * r) (M2 - n2 * r) Q w A nMe 2098 (lsH i z5 z6) [] h2) → Wt p l e R s m args below meth c (M1 - n1 * (r + 1)) (M2 - n2 * (r + 1)) Q w A nMe 462 (lsH i z5 z6) [] h) (fin : ∀ (r i : Nat) (z5 z6 : MV) (h : MH), Wt p l e R s m args below meth c (M1 - n1 * r) (M2 - n2 * r) Q w A nMe 2104 (lsH i z5 z6) [] h) : ∀ (r i : Nat) (b : Int) (Ws : Nat → WF) (h : MH) (z5 z6 : MV), r ≤ 512 → w.2.2.2.2.2 < i + 7 * (r + 1) → i ≤ 2147483000 → InvX b Ws h → b + 144 * r ≤ 600000 → Wt p l e R s m args below meth c (M1 - n1 * r) (M2 - n2 * r) Q w A nMe 23 (lsH i z5 z6) [] h := by
  intro r
  induction r with
  | zero =>
    intro i b Ws h z5 z6 h512 hr hi iv hb
    refine L_iload (K 0) (by decide +kernel : fetch nMe 23 = some (.iload 4, 2)) rfl rfl ?_
    refine L_aload_n (K 0) (by decide +kernel : fetch nMe 25 = some (.aload_n 0, 1)) rfl (by decide) rfl ?_
    refine L_len112 (K 0) (by decide +kernel : fetch nMe 26 = some (.arraylength, 1)) mk_scr rfl ?_
    refine L_bipush (K 0) (by decide +kernel : fetch nMe 27 = some (.bipush 7, 2)) (v := 7) (by decide) rfl ?_
    refine L_isub (K 0) (by decide +kernel : fetch nMe 29 = some (.isub, 1)) rfl ?_
    refine Wt_wr (fun _ _ hl _ => ?_)
    exact L_icmp_gt_t (K 0) (by decide +kernel : fetch nMe 30 = some (.if_icmp .gt 2074, 3)) (pc' := 2104) (by decide) (by rw [hl, wI_ok (by omega) (by omega)]; omega) (fin 0 i z5 z6 h)
  | succ r ih =>
    intro i b Ws h z5 z6 h512 hr hi iv hb
    refine L_iload (K (r + 1)) (by decide +kernel : fetch nMe 23 = some (.iload 4, 2)) rfl rfl ?_
    refine L_aload_n (K (r + 1)) (by decide +kernel : fetch nMe 25 = some (.aload_n 0, 1)) rfl (by decide) rfl ?_
    refine L_len112 (K (r + 1)) (by decide +kernel : fetch nMe 26 = some (.arraylength, 1)) mk_scr rfl ?_
    refine L_bipush (K (r + 1)) (by decide +kernel : fetch nMe 27 = some (.bipush 7, 2)) (v := 7) (by decide) rfl ?_
    refine L_isub (K (r + 1)) (by decide +kernel : fetch nMe 29 = some (.isub, 1)) rfl ?_
    refine Wt_wr (fun _ hs hl _ => ?_)
    by_cases q : w.2.2.2.2.2 < i + 7
    · exact L_icmp_gt_t (K (r + 1)) (by decide +kernel : fetch nMe 30 = some (.if_icmp .gt 2074, 3)) (pc' := 2104) (by decide) (by rw [hl, wI_ok (by omega) (by omega)]; omega) (fin (r + 1) i z5 z6 h)
    · refine L_icmp_gt_f (K (r + 1)) (by decide +kernel : fetch nMe 30 = some (.if_icmp .gt 2074, 3)) (t := 2104) (by decide) rfl (by rw [hl, wI_ok (by omega) (by omega)]; omega) ?_
      refine L_aload_n (K (r + 1)) (by decide +kernel : fetch nMe 33 = some (.aload_n 0, 1)) rfl (by decide) rfl ?_
      refine L_iload (K (r + 1)) (by decide +kernel : fetch nMe 34 = some (.iload 4, 2)) rfl rfl ?_
      refine L_iald112 (K (r + 1)) (by decide +kernel : fetch nMe 36 = some (.iaload, 1)) mk_scr ⟨by omega, by rw [hl]; omega⟩ rfl ?_
      refine L_bipush (K (r + 1)) (by decide +kernel : fetch nMe 37 = some (.bipush 63, 2)) (v := 63) (by decide) rfl ?_
      refine L_iand (K (r + 1)) (by decide +kernel : fetch nMe 39 = some (.iand, 1)) rfl ?_
      refine L_disp (K (r + 1)) (by omega) hm iv (by omega) (and63 _) (c6 r i z5 z6 h b Ws (by omega) (by omega) iv (by omega) (fun h2 Ws2 y5 y6 i2 => L_next (K r) hi (ih (i + 7) b Ws2 h2 y5 y6 (by omega) (by omega) (by omega) i2 (by omega)))) (fun b2 h2 Ws2 y5 y6 hb2 i2 => ?_)
      exact Wt_wide (Nat.sub_le_sub_left (Nat.mul_le_mul_left _ (by omega)) _) (Nat.sub_le_sub_left (Nat.mul_le_mul_left _ (by omega)) _) (L_next (K r) hi (ih (i + 7) b2 Ws2 h2 y5 y6 (by omega) (by omega) (by omega) i2 (by omega)))
end LAWF
