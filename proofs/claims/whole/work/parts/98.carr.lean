/-! carrier: class and reference -/
theorem cr_ok {b : Int} {h : MH} (i : Inv0 b h) {x y : Int} (hx : 0 ≤ x ∧ x < h 2 4) (hy : 0 ≤ y ∧ y ≤ 4) : ∃ r : Int, (∀ d, Run (d + 1) 176 0 [vR 0, .inl x, .inl y] [] h = some (some (.inl r), h)) ∧ ∀ (d : Nat) (h' : MH), (∀ a, a ≠ 120 → h' a = h a) → Run (d + 1) 221 0 [vR 97, .inl x, .inl y] [] h' = some (some (.inl r), up h' 97 0 0) := by
  obtain ⟨l1, l2, l3, l4, l5, l6, l7⟩ := lg_n i
  have r := nowR i
  obtain ⟨x1, x2⟩ := hx
  have cM : ∀ (d : Nat) (h' : MH), (∀ a, a ≠ 120 → h' a = h a) → Run (d + 1) 221 0 [vR 97, .inl x, .inl y] [] h' = some (some (.inl (if y < 2 then h 106 (3 * x + y).toNat else h 110 (16 + 3 * x + y - 2).toNat)), up h' 97 0 0) := by
    intro d h' he
    have e1 : h' 97 = h 97 := he _ (by omega)
    have e2 : h' 106 = h 106 := he _ (by omega)
    have e3 : h' 110 = h 110 := he _ (by omega)
    rw [q221_0, m_isCarrier, cI_some, e1, l2, bi_t ⟨x1, x2⟩, if_neg (by omega), m_isIn, cI_some, bi_t ⟨by omega, by omega⟩, if_neg (by omega), q221_26]
    rw [up_s, if_pos (by omega)]
    by_cases q : 2 ≤ y
    · rw [if_pos q, m_folk _ _ _ x1 (by omega), cI_some, wI_ok (x := 16 + 3 * x + y) (by omega) (by omega), wI_ok (by omega) (by omega), if_pos (by omega), if_neg (by omega), up_ne (by omega), e3]
    · rw [if_neg q, m_told _ _ _ _ x1 (by omega) (by omega) (by omega), cI_some, if_pos (by omega), up_ne (by omega), e2]
  have y0 : y = 0 ∨ y = 1 ∨ y = 2 ∨ y = 3 ∨ y = 4 := by omega
  have cC : ∀ d, Run (d + 1) 176 0 [vR 0, .inl x, .inl y] [] h = some (some (.inl (if y < 2 then h 106 (3 * x + y).toNat else h 110 (16 + 3 * x + y - 2).toNat)), h) := by
    intro d
    rw [q176_0, e_hasCarrier, cI_some, bi_t ⟨x1, x2⟩, if_pos (by omega)]
    rcases y0 with rfl | rfl | rfl | rfl | rfl
    · rw [if_pos rfl, e_weight _ _ _ x1 (by omega), cI_some, if_pos (by omega), lg_carrier i _ (by omega) (by omega), Int.add_zero]
    · rw [if_neg (by omega), if_pos rfl, e_nerve _ _ _ x1 (by omega), cI_some, if_pos (by omega), lg_carrier i _ (by omega) (by omega)]
    · rw [if_neg (by omega), if_neg (by omega), if_pos rfl, wI_ok (by omega) (by omega), if_pos (by omega), if_neg (by omega), ← st_at r x x1 (by omega), show 16 + 3 * x + 2 - 2 = 16 + 3 * x by omega]
    · rw [if_neg (by omega), if_neg (by omega), if_neg (by omega), if_pos rfl, wI_ok (by omega) (by omega), if_pos (by omega), if_neg (by omega), ← st_hurt r x x1 (by omega), show 16 + 3 * x + 3 - 2 = 16 + 3 * x + 1 by omega]
    · rw [if_neg (by omega), if_neg (by omega), if_neg (by omega), if_neg (by omega), if_pos rfl, wI_ok (by omega) (by omega), if_pos (by omega), if_neg (by omega), ← st_late r x x1 (by omega), show 16 + 3 * x + 4 - 2 = 16 + 3 * x + 2 by omega]
  exact ⟨_, cC, cM⟩
theorem cr_no {b : Int} {h : MH} (i : Inv0 b h) {x y : Int} (q : ¬ ((0 ≤ x ∧ x < h 2 4) ∧ 0 ≤ y ∧ y ≤ 4)) (d : Nat) : Run (d + 1) 221 0 [vR 97, .inl x, .inl y] [] h = some (some (.inl 0), up h 97 0 1) := by
  obtain ⟨l1, l2, l3, l4, l5, l6, l7⟩ := lg_n i
  rw [q221_0, m_isCarrier, cI_some, l2]
  by_cases q1 : 0 ≤ x ∧ x < h 2 4
  · rw [bi_t q1, if_neg (by omega), m_isIn, cI_some, bi_f (by intro z; exact q ⟨q1, by omega, by omega⟩), if_pos rfl, q221_26, up_s, if_neg (by omega)]
  · rw [bi_f q1, if_pos rfl, q221_26, up_s, if_neg (by omega)]
theorem InvX_out {b : Int} {Ws : Nat → WF} {h : MH} (i : InvX b Ws h) (v : Int) : InvX b Ws (up h 120 0 v) := by
  have ne : ∀ a j, relL a j = true → a ≠ 120 := fun a j e z => by subst z; exact Bool.false_ne_true e
  exact ⟨⟨Inv0_res (res_up rfl) i.1.1, InvL_c (fun a j e _ _ => by rw [up_ne (ne a j e)]) i.1.2⟩, InvA_c (fun a j e => by rw [up_ne (ne a j e)]) i.2⟩
/-! carrier, where it throws -/
def yLC : MethodName := ⟨"CannonPostLaw", "carrier", "(LCannonPost;II[J)I"⟩
def kLC : Jvm.Cond := .codeWith yLC method_3_code 5 (some .int) [(0, 10, 13, 13)]
theorem lc_w : (kLC ∈ gT ∧ Cond.static yLC ∈ gT) ∧ (Cond.methodLink "CannonPostLaw" 46 yLC ∈ gT ∧ Cond.classLink "CannonPostLaw" 13 nsE ∈ gT) ∧ Cond.initialized "CannonPostLaw" ∈ gT := ⟨⟨gT_of (by decide +kernel) (by decide +kernel), gT_of (by decide +kernel) (by decide +kernel)⟩, ⟨gT_of (by decide +kernel) (by decide +kernel), gT_of (by decide +kernel) (by decide +kernel)⟩, gT_of (by decide +kernel) (by decide +kernel)⟩
def PcX (w : WP) (A : Nat → Prop) (vs : List MV) (h : MH) (sa : Nat × Nat) : Array Value → State → Prop := fun a U => PcM w A vs h a U ∧ XEs A sa U U.heap
theorem PcX_blind (w : WP) (A : Nat → Prop) (vs : List MV) (h : MH) (sa : Nat × Nat) : FrameBlind (PcX w A vs h sa) := fun a U g mk hq => ⟨PcM_blind w A vs h a U g mk hq.1, XEs_same (u := U) rfl hq.2⟩
def XcM (w : WP) (A : Nat → Prop) (h : MH) : String → State → State → Prop := fun E st t => E = nsE ∧ va_P w.2.2.1 mcl (wS w h) t.heap ∧ va_F A st t
def rmX : Room := { frames := 60, cells := 1, slots := 6, locals := 4000 }
def rmY : Room := { frames := 70, cells := 1, slots := 6, locals := 5000 }
section CARR
variable {p : Program} {l : Launch} {e : Env} {R : Room} {s : State} {m : MethodId} {args : Array Value} {below : List Frame} {meth : Method} {c : Code} {cells slots : Nat} {Q : State → Prop} {w : WP} {A : Nat → Prop}
set_option maxRecDepth 100000 in
theorem car_thr (hl : l.stackTraces = false) (hz : w.2.1.category = 1) (sa : Nat × Nat) {x y : Int} {h : MH} (hix : inI x) (hiy : inI y) (hok : okH h ∧ h scC = w.2.2.2.2.1 ∧ slen h = w.2.2.2.2.2) (q : ¬ ((0 ≤ x ∧ x < h 2 4) ∧ 0 ≤ y ∧ y ≤ 4)) : vx_Met l (mY 176) (wsM 176) rmX (PcX w A [vR 0, .inl x, .inl y] h sa) (fun _ _ _ _ => False) (XcM w A h) 1 6 A := by
  have hk : 176 < nMe := by decide
  have l3 : mL 176 = 3 := by decide +kernel
  have o11 : mO 176 = 11 := by decide +kernel
  refine vx_ofW (cc := mC 176) (maxL := mL 176) (ret := mR 176) (m_ok hk).2.1 rfl ?_
  intro p e s m args below meth c s₁ B hml hEx hPc
  obtain ⟨⟨rfl, hP, hK, hD, hRM⟩, hX⟩ := hPc
  generalize hargs : (([vR 0, .inl x, .inl y] : List MV).map (val w)).toArray = ar at B
  have hts0 : ∀ q ∈ wsM 176, q.before ar s = true := atoms_spec (ws := wsM 176) B.pre
  have hts : ∀ q ∈ gT, q.before ar s = true := fun q hq => hts0 q (List.mem_cons_of_mem _ hq)
  have hown : s.vm.findClass (cnm (mO 176)) = some m.cls := by
    rw [← (m_ok hk).1]
    exact findClass_of_methodNamed B.named
  have hownC : s.vm.findClass "CannonPost" = some m.cls := hown
  have C2 : CX p rmX s m ar c 0 0 w A 176 := ⟨⟨B.exec, B.bytes, hml, hown, hts⟩, hK, hRM, hz, by decide, by decide, Nat.zero_le _, Nat.zero_le _⟩
  have hF : 42 ≤ rmX.frames := by decide
  have hL0 : 2520 ≤ rmX.locals := by decide
  have oA : okA [vR 0, .inl x, .inl y] := by
    intro v hv
    simp only [List.mem_cons, List.not_mem_nil, or_false] at hv
    rcases hv with rfl | rfl | rfl
    · exact trivial
    · exact hix
    · exact hiy
  have thr : ∀ (pc is a : Nat) (tx : String), vk_R "CannonPost" is tx a s → decode (mC 176) pc = .ok (.new 181, 3) → decode (mC 176) (pc + 3) = .ok (.dup, 1) → decode (mC 176) (pc + 4) = .ok (.ldc is, 2) → decode (mC 176) (pc + 6) = .ok (.invokespecial 185, 3) → decode (mC 176) (pc + 9) = .ok (.athrow, 1) →
      Wt p l e rmX s m ar below meth c 0 0 (vx_MQ below (fun _ _ _ _ => False) (XcM w A h) ar s 1 6 A) w A 176 pc [vR 0, .inl x, .inl y] [] h := by
    intro pc is a tx hR d0 d3 d4 d6 d9 lsA H locs a1 a2 a3 a4 a5
    refine nse_throw (A := A) B.exec B.bytes hl hownC hts hX.1 hR hX.2.2.2.1 hX.2.2.2.2 a5.2.2.1 (by rw [hml]; exact a1.1) d0 d3 d4 d6 d9 (fun x hx => (hEx x hx).elim) (by first | decide | (show 0 + 82 ≤ 4000; decide)) (by first | decide | (show 0 + 82 ≤ 4000; decide)) (by first | decide | (show 0 + 82 ≤ 4000; decide)) (by first | decide | (show 0 + 82 ≤ 4000; decide)) B.notSynchronized (fun t _ hz1 hk1 => ?_) (fun z hz => a5.2.2.1.2.2 z hz) (Nat.le_refl _) (Nat.le_refl _)
    have hS := a5.2.2.1
    exact ⟨rfl, a5.1.kept (fun k q hq => hk1 q.1 ((a5.1 k q hq).lt)), Nat.le_trans hS.1 hz1, fun q g1 g2 => (hk1 q (Nat.lt_of_lt_of_le g1 hS.1)).trans (hS.2.1 q g1 g2)⟩
  obtain ⟨⟨t1, hR1⟩, ⟨t2, hR2⟩⟩ := And.intro hX.2.1 hX.2.2.1
  have w11 := thr 11 183 sa.1 t1 hR1 (by decide +kernel) (by decide +kernel) (by decide +kernel) (by decide +kernel) (by decide +kernel)
  have w113 := thr 113 194 sa.2 t2 hR2 (by decide +kernel) (by decide +kernel) (by decide +kernel) (by decide +kernel) (by decide +kernel)
  have w0 : Wt p l e rmX s m ar below meth c 0 0 (vx_MQ below (fun _ _ _ _ => False) (XcM w A h) ar s 1 6 A) w A 176 0 [vR 0, .inl x, .inl y] [] h := by
    refine lw_stp C2 hF hL0 ?_
    unfold stp
    rw [show fetch 176 0 = some (.aload_n 0, 1) from by decide +kernel]
    try dsimp only
    rw [if_pos rfl]
    show (if 0 < nC then _ else _)
    rw [if_pos (by decide)]
    refine lw_stp C2 hF hL0 ?_
    unfold stp
    rw [show fetch 176 (0 + 1) = some (.getfield 19, 3) from by decide +kernel]
    try dsimp only
    rw [if_pos rfl, o11, show fl 11 19 = some (11, 1) from by decide +kernel]
    try dsimp only
    rw [if_pos (by decide), show ft 11 1 = 2 from by decide +kernel]
    try dsimp only
    rw [show mr 0 1 = 2 from by decide +kernel]
    refine lw_stp C2 hF hL0 ?_
    unfold stp
    rw [show fetch 176 (0 + 1 + 3) = some (.iload_n 1, 1) from by decide +kernel]
    try dsimp only
    rw [if_pos rfl]
    show Wt p l e rmX s m ar below meth c 0 0 _ w A 176 (0 + 1 + 3 + 1) [vR 0, .inl x, .inl y] [.inl x, vR 2] h
    refine lw_stp C2 hF hL0 ?_
    unfold stp
    rw [show fetch 176 (0 + 1 + 3 + 1) = some (.invokevirtual 178, 3) from by decide +kernel]
    try dsimp only
    rw [if_pos rfl, o11, show vl 11 178 = some (72, 1) from by decide +kernel]
    try dsimp only
    show (if 1 ≤ [(Sum.inl x : MV), vR 2].length ∧ (mk 2).1 = mO 72 ∧ cats [] ≤ 8 ∧ (ent [vR 2, .inl x]).length ≤ mL 72 then _ else _)
    rw [if_pos ⟨(show 1 ≤ 2 from by decide), by decide +kernel, by decide, by rw [show mL 72 = 2 from by decide +kernel]; exact Nat.le_refl 2⟩]
    refine ⟨some (.inl (bi (0 ≤ x ∧ x < h 2 4))), h, ?_, ?_⟩
    · show Run 40 72 0 (entry 72 [vR 2, .inl x]) [] h = _
      rw [show entry 72 [vR 2, .inl x] = [vR 2, .inl x] from ent_eq9 (by decide +kernel : mL 72 = 2) rfl]
      exact e_hasCarrier 40 x h
    · refine lw_stp C2 hF hL0 ?_
      unfold stp
      rw [show fetch 176 (0 + 1 + 3 + 1 + 3) = some (.ifCond .ne 13, 3) from by decide +kernel]
      try dsimp only
      rw [if_pos rfl]
      by_cases q1 : 0 ≤ x ∧ x < h 2 4
      · rw [bi_t q1]
        show (if 0 ≤ ((0 + 1 + 3 + 1 + 3 : Nat) : Int) + 13 then (if tst .ne 1 0 = true then _ else _) else _)
        rw [if_pos (by decide), if_pos (by decide)]
        show Wt p l e rmX s m ar below meth c 0 0 _ w A 176 21 [vR 0, .inl x, .inl y] [] h
        refine lw_stp C2 hF hL0 ?_
        unfold stp
        rw [show fetch 176 21 = some (.iload_n 2, 1) from by decide +kernel]
        try dsimp only
        rw [if_pos rfl]
        show Wt p l e rmX s m ar below meth c 0 0 _ w A 176 22 [vR 0, .inl x, .inl y] [.inl y] h
        refine lw_stp C2 hF hL0 ?_
        unfold stp
        rw [show fetch 176 22 = some (.tableswitch 91 0 4 #[34, 43, 52, 65, 78], 34) from by decide +kernel]
        try dsimp only
        rw [if_pos (by have := fun z => q ⟨q1, z⟩; omega), if_pos (by decide)]
        exact w113
      · rw [bi_f q1]
        show (if 0 ≤ ((0 + 1 + 3 + 1 + 3 : Nat) : Int) + 13 then (if tst .ne 0 0 = true then _ else _) else _)
        rw [if_pos (by decide), if_neg (by decide)]
        exact w11
  rw [← hargs]
  rw [lg_entry_eq]
  have hlg : (lg_sl (([vR 0, .inl x, .inl y] : List MV).map (val w))).length ≤ mL 176 := by rw [ent_len w hz _ oA, l3]; exact Nat.le_refl 3
  have hl9 := lv_entry (([vR 0, .inl x, .inl y] : List MV).map (val w)) hlg
  rw [← asc_ent w hz (mL 176 - (ent [vR 0, .inl x, .inl y]).length) _ 0 oA] at hl9
  rw [show ent [vR 0, .inl x, .inl y] ++ List.replicate (mL 176 - (ent [vR 0, .inl x, .inl y]).length) vU = [vR 0, .inl x, .inl y] from by rw [l3]; rfl] at hl9
  rw [← hargs] at w0
  exact w0 _ s.heap [] hl9 l3.symm (fun v hv => Or.inr (oA v hv)) (fun v hv => by cases hv) ⟨hP, hD, va_S.rf, hok⟩
end CARR
