/-! the law's own carrier, and its sixth case -/
section LCAR
variable {p : Program} {l : Launch} {e : Env} {R : Room} {s : State} {m : MethodId} {args : Array Value} {below : List Frame} {meth : Method} {c : Code} {cells slots : Nat} {Q : State → Prop} {w : WP} {A : Nat → Prop} {H : Heap} {locs : List Loc}
theorem cal_goN {pc mc ms : Nat} {lsA : Array Slot} {st0 : List Value} {a : Array Value} {rest : List MV} {h h2 : MH} {v : Option MV} (hw : WR w A s h H locs)
    (hr : va_Run p l e R s m args below meth c H locs cells slots mc ms (F0 m pc lsA st0) (rest.map (val w)) (QcM w A v h2 a) A)
    (kk : ∀ (H1 : Heap) (locs1 : List Loc), WR w A s h2 H1 locs1 → (∀ x, v = some x → okV x) → W p l e R s m args below meth c H1 locs1 (cells + mc) (slots + ms) Q (F0 m (pc + 3) lsA ((v.toList ++ rest).map (val w)))) :
    W p l e R s m args below meth c H locs cells slots Q (F0 m pc lsA st0) := by
  intro T hT X
  obtain ⟨v1, s0, t, T1, L, e0, X1, hL, e1, e2, ⟨q1, q2, ⟨q3, q4⟩, hk2, hov⟩, st⟩ := hr T hT X
  cases q1
  rw [e0] at q3 q4
  have hS := hw.2.2.1
  have hW1 : WR w A s h2 T1.heap (locs ++ L) := by
    refine ⟨by rw [e1]; exact q2, D_wS hw.2.1, ⟨?_, fun q g1 g2 => ?_, fun q hq => ?_⟩, hk2⟩
    · rw [e1]; exact Nat.le_trans hS.1 q3
    · rw [e1, q4 q (Nat.lt_of_lt_of_le g1 hS.1) g2]
      exact hS.2.1 q g1 g2
    · rcases List.mem_append.mp hq with g | g
      · exact hS.2.2 q g
      · exact hL q g
  have hst : ((v.toList ++ rest).map (val w)) = (v.map (val w)).toList ++ rest.map (val w) := by
    cases v <;> simp
  have hk := kk T1.heap (locs ++ L) hW1 hov
  rw [hst] at hk
  obtain ⟨t2, a1, b1⟩ := hk T1 rfl X1
  exact ⟨t2, st t2 a1, b1⟩
theorem oA3 {x y : Int} (hix : inI x) (hiy : inI y) : okA [vR 0, .inl x, .inl y] := by
  intro v hv
  simp only [List.mem_cons, List.not_mem_nil, or_false] at hv
  rcases hv with rfl | rfl | rfl
  · exact trivial
  · exact hix
  · exact hiy
theorem rc_post (hK : va_K w.2.2.1 mcl (tyW w) s) {h : MH} (hP : va_P w.2.2.1 mcl (wS w h) H) : ∃ cellB : Cell, H[w.1 0]? = some cellB ∧ cellB.vm.isStatics = false ∧ s.vm.findClass (mY 176).cls = some cellB.cls := by
  have h11 : (mk 0).1 < 13 := by decide +kernel
  have h0 : 0 < nM := by decide
  have := va_recv hK hP (mcl_get h11) (by rw [wS_get h0, cE_obj h11])
  rw [nm_ok _ h11] at this
  rw [(m_ok (by decide : 176 < nMe)).1]
  rw [show (mk 0).1 = mO 176 from by decide +kernel] at this
  exact this
theorem cw_post {mc ms : Nat} {rm : Room} (hts : ∀ q ∈ gT, q.before args s = true) (hrc : rm.cells = mc) (hrs : rm.slots = ms) (hf : rm.frames + 1 ≤ R.frames) (hlo : 22 + rm.locals ≤ R.locals) : CallW R s args "CannonPostLaw" (mY 176).cls 7 (mY 176) (mC 176) (mL 176) (mR 176) (wsM 176) rm mc ms 2 := by
  have hk : 176 < nMe := by decide
  have hm : (19, 7, 176, 2) ∈ vL_ := by decide +kernel
  have hck := ok_cv _ hm
  unfold chkV at hck
  simp only [Bool.and_eq_true, decide_eq_true_eq] at hck
  obtain ⟨⟨⟨hk2, hin⟩, hse⟩, hpar⟩ := hck
  have hmo := m_ok hk
  have l3 : mL 176 = 3 := by decide +kernel
  exact ⟨callB_of (R := R) (own := cnm 19) (index := 7) 2 hts (good_M hk) (show wsM 176 = Jvm.Cond.code (mY 176) (mC 176) (mL 176) (mR 176) :: gT from rfl) hrc hrs (ini_M hk hts) (hts _ (ok_v _ (List.mem_map.mpr ⟨_, hm, rfl⟩))) ⟨hmo.2.2.1.1, hmo.2.2.1.2, hpar⟩ ⟨hf, by rw [l3]; omega⟩, hts _ (ok_i _ (List.mem_map.mpr ⟨_, hin, rfl⟩)), hts _ (ok_e _ (List.mem_map.mpr ⟨_, hse, rfl⟩))⟩
abbrev lcV (w : WP) (x y : Int) : List Value := [.ref (w.1 0), .int (Int32.ofInt x), .int (Int32.ofInt y), .ref (w.1 120)]
theorem lcV_eq (w : WP) (x y : Int) : ([vR 0, .inl x, .inl y, vR 120] : List MV).map (val w) = lcV w x y := by
  rw [List.map_cons, List.map_cons, List.map_cons, List.map_cons, val_ref (by decide : 0 < nC), val_ref (by decide : 120 < nC)]
  rfl
theorem m3_0 : decode method_3_code 0 = .ok (.aload_n 3, 1) := by decide +kernel
theorem m3_1 : decode method_3_code 1 = .ok (.iconst 0, 1) := by decide +kernel
theorem m3_2 : decode method_3_code 2 = .ok (.aload_n 0, 1) := by decide +kernel
theorem m3_3 : decode method_3_code 3 = .ok (.iload_n 1, 1) := by decide +kernel
theorem m3_4 : decode method_3_code 4 = .ok (.iload_n 2, 1) := by decide +kernel
theorem m3_5 : decode method_3_code 5 = .ok (.invokevirtual 7, 3) := by decide +kernel
theorem m3_8 : decode method_3_code 8 = .ok (.i2l, 1) := by decide +kernel
theorem m3_9 : decode method_3_code 9 = .ok (.lastore, 1) := by decide +kernel
theorem m3_10 : decode method_3_code 10 = .ok (.goto 7, 3) := by decide +kernel
theorem m3_13 : decode method_3_code 13 = .ok (.astore 4, 2) := by decide +kernel
theorem m3_15 : decode method_3_code 15 = .ok (.iconst 1, 1) := by decide +kernel
theorem m3_16 : decode method_3_code 16 = .ok (.ireturn, 1) := by decide +kernel
theorem m3_17 : decode method_3_code 17 = .ok (.iconst 0, 1) := by decide +kernel
theorem m3_18 : decode method_3_code 18 = .ok (.ireturn, 1) := by decide +kernel
/-- the way to the call -/
theorem lc_head {x y : Int} {lsA : Array Slot} (hx : p.tables.exec = Jvm.exec) (hb : c.code = method_3_code) (hl : lv_has lsA 5 [(0, .ref (w.1 0)), (1, .int (Int32.ofInt x)), (2, .int (Int32.ofInt y)), (3, .ref (w.1 120))])
    (g : W p l e R s m args below meth c H locs cells slots Q (F0 m 5 lsA [.int (Int32.ofInt y), .int (Int32.ofInt x), .ref (w.1 0), .int 0, .ref (w.1 120)])) : W p l e R s m args below meth c H locs cells slots Q (F0 m 0 lsA []) := by
  refine lv_aload_n hx hb m3_0 rfl (lv_at hl 3 rfl) ?_
  refine lv_iconst hx hb m3_1 (v := 0) (by decide) ?_
  refine lv_aload_n hx hb m3_2 rfl (lv_at hl 0 rfl) ?_
  refine lv_iload_n hx hb m3_3 rfl (lv_at hl 1 rfl) ?_
  refine lv_iload_n hx hb m3_4 rfl (lv_at hl 2 rfl) ?_
  exact g
set_option maxRecDepth 100000 in
theorem lc_ok (hz : w.2.1.category = 1) (sa : Nat × Nat) {x y r : Int} {h : MH} (hix : inI x) (hiy : inI y) (hok : okH h ∧ h scC = w.2.2.2.2.1 ∧ slen h = w.2.2.2.2.2) (hR : Run 40 176 0 [vR 0, .inl x, .inl y] [] h = some (some (.inl r), h)) : Met l yLC (kLC :: gT) rmY (PcX w A [vR 0, .inl x, .inl y, vR 120] h sa) (QcM w A (some (.inl 0)) (up h 120 0 r)) 1 6 A := by
  have hk : 176 < nMe := by decide
  have l3 : mL 176 = 3 := by decide +kernel
  have hM := met_run l (w := w) (A := A) hz (d := 40) (k2 := 176) (vs := [vR 0, .inl x, .inl y]) (by rw [show entry 176 [vR 0, .inl x, .inl y] = [vR 0, .inl x, .inl y] from ent_eq9 l3 rfl]; exact hR) hk (oA3 hix hiy) (by rw [l3]; exact Nat.le_refl 3) hok
  refine va_MetW (cc := method_3_code) (maxL := 5) (ret := some .int) (by decide +kernel) rfl ?_
  intro p e s m args below meth c s₁ B hml hPc
  obtain ⟨⟨rfl, hP, hK, hD, hRM⟩, hX⟩ := hPc
  rw [lcV_eq] at B ⊢
  have hx := B.exec
  have hb := B.bytes
  have hts0 : ∀ q ∈ kLC :: gT, q.before (lcV w x y).toArray s = true := atoms_spec (ws := kLC :: gT) B.pre
  have hts : ∀ q ∈ gT, q.before (lcV w x y).toArray s = true := fun q hq => hts0 q (List.mem_cons_of_mem _ hq)
  have hown : s.vm.findClass "CannonPostLaw" = some m.cls := findClass_of_methodNamed B.named
  have hl := lv_entry (lcV w x y) (n := 5) (Nat.le_of_ble_eq_true rfl)
  rw [lg_entry_eq]
  generalize (lg_sl (lcV w x y) ++ List.replicate (5 - (lg_sl (lcV w x y)).length) Slot.unset).toArray = lsA at hl ⊢
  have hl : lv_has lsA 5 [(0, .ref (w.1 0)), (1, .int (Int32.ofInt x)), (2, .int (Int32.ofInt y)), (3, .ref (w.1 120))] := hl
  have hWR : WR w A s h s.heap [] := ⟨hP, hD, va_S.rf, hok⟩
  refine lc_head hx hb hl ?_
  have eS : ([.inl 0, vR 120] : List MV).map (val w) = [.int 0, .ref (w.1 120)] := by
    rw [List.map_cons, List.map_cons, val_ref (by decide : 120 < nC)]
    rfl
  have hrun := va_runV (C := (mY 176).cls) (R := rmY) (b := w.1 0) (As := [.int (Int32.ofInt x), .int (Int32.ofInt y)]) (rest := ([.inl 0, vR 120] : List MV).map (val w)) (g := F0 m 5 lsA [.int (Int32.ofInt y), .int (Int32.ofInt x), .ref (w.1 0), .int 0, .ref (w.1 120)]) (cells := 0) (slots := 0) (locs := []) (below := below) (meth := meth) (e := e) ⟨hx, hb, hml, hown, hts⟩ hM (cw_post hts rfl rfl (by decide) (by decide)) ⟨PcM_blind w A _ h, rc_post hK hP, fun U hU hWm => by
      have h9 := pre_M (vs := [vR 0, .inl x, .inl y]) hWR hK hRM U hU hWm
      rw [List.map_cons, val_ref (by decide : 0 < nC)] at h9
      exact h9⟩ rfl rfl hl.1 (by rw [eS]; rfl) (lv_room (by rw [eS]; exact Nat.le_of_ble_eq_true rfl)) m3_5 ⟨by decide, by decide⟩
  refine cal_goN hWR hrun (fun H1 locs1 hW1 hov => ?_)
  have hir : inI r := hov (.inl r) rfl
  have e1 : ((some (.inl r : MV)).toList ++ [.inl 0, vR 120]).map (val w) = [.int (Int32.ofInt r), .int 0, .ref (w.1 120)] := by
    show val w (.inl r) :: ([.inl 0, vR 120] : List MV).map (val w) = _
    rw [eS]
    rfl
  rw [e1]
  refine lv_i2l hx hb m3_8 (i32_i64 hir) ?_
  have hoM : 120 < nM := by decide
  have ho3 : (mk 120).1 = 103 := by decide +kernel
  refine va_last hx hb hK hW1.1 hW1.2.1 hW1.2.2.1 120 3 (by rw [wS_get hoM, cE_103 ho3]) rfl (by rw [show (mk 120).2 = 1 from by decide +kernel]; unfold vp_in; decide) m3_9 (fun H2 locs2 hP2 hD2 hS2 => ?_)
  have hW2 : WR w A s (up h 120 0 r) H2 locs2 := by
    refine WR_up hW1 hoM ?_ ?_ hP2 hD2 hS2
    · rw [cE_103 ho3]
      congr 5
      funext z
      unfold vp_updL
      by_cases q : z = 0
      · rw [if_pos (by rw [q]; rfl), if_pos q]
      · rw [if_neg (by intro z1; exact q z1), if_neg q]
    · unfold okS
      rw [ho3]
      exact inI_inL hir
  refine lv_goto hx hb m3_10 (tgt := 17) (by decide) ?_
  refine lv_iconst hx hb m3_17 (v := 0) (by decide) ?_
  refine W.widen (k := 1) (n := 6) (by decide) (by decide) ?_
  exact W.iret (v := 0) hx hb B.returns (fun t ht hW => ⟨rfl, by rw [ht]; exact hW2.1, hW2.2.2.1.F ht, hW2.2.2.2, fun z hz => by cases hz; show inI 0; unfold inI; omega⟩) hW2.2.2.1.2.2 m3_18 (hlocks := B.notSynchronized)
set_option maxRecDepth 100000 in
theorem lc_thr (hl0 : l.stackTraces = false) (hz : w.2.1.category = 1) (sa : Nat × Nat) {x y : Int} {h : MH} (hix : inI x) (hiy : inI y) (hok : okH h ∧ h scC = w.2.2.2.2.1 ∧ slen h = w.2.2.2.2.2) (q : ¬ ((0 ≤ x ∧ x < h 2 4) ∧ 0 ≤ y ∧ y ≤ 4)) : Met l yLC (kLC :: gT) rmY (PcX w A [vR 0, .inl x, .inl y, vR 120] h sa) (QcM w A (some (.inl 1)) h) 1 6 A := by
  have hM := car_thr (l := l) (w := w) (A := A) hl0 hz sa hix hiy hok q
  refine va_MetW (cc := method_3_code) (maxL := 5) (ret := some .int) (by decide +kernel) rfl ?_
  intro p e s m args below meth c s₁ B hml hPc
  obtain ⟨⟨rfl, hP, hK, hD, hRM⟩, hX⟩ := hPc
  rw [lcV_eq] at B ⊢
  have hx := B.exec
  have hb := B.bytes
  have hts0 : ∀ q ∈ kLC :: gT, q.before (lcV w x y).toArray s = true := atoms_spec (ws := kLC :: gT) B.pre
  have hts : ∀ q ∈ gT, q.before (lcV w x y).toArray s = true := fun q hq => hts0 q (List.mem_cons_of_mem _ hq)
  have hown : s.vm.findClass "CannonPostLaw" = some m.cls := findClass_of_methodNamed B.named
  have hTab : c.exceptionTable.toList = tableOf [(0, 10, 13, 13)] := vx_table (x := yLC) B (hts0 _ List.mem_cons_self)
  have hl := lv_entry (lcV w x y) (n := 5) (Nat.le_of_ble_eq_true rfl)
  rw [lg_entry_eq]
  generalize (lg_sl (lcV w x y) ++ List.replicate (5 - (lg_sl (lcV w x y)).length) Slot.unset).toArray = lsA at hl ⊢
  have hl : lv_has lsA 5 [(0, .ref (w.1 0)), (1, .int (Int32.ofInt x)), (2, .int (Int32.ofInt y)), (3, .ref (w.1 120))] := hl
  have hWR : WR w A s h s.heap [] := ⟨hP, hD, va_S.rf, hok⟩
  refine lc_head hx hb hl ?_
  have hrun := vx_runV (C := (mY 176).cls) (R := rmY) (b := w.1 0) (As := [.int (Int32.ofInt x), .int (Int32.ofInt y)]) (rest := [.int 0, .ref (w.1 120)]) (g := F0 m 5 lsA [.int (Int32.ofInt y), .int (Int32.ofInt x), .ref (w.1 0), .int 0, .ref (w.1 120)]) (cells := 0) (slots := 0) (locs := []) (below := below) (meth := meth) (e := e) ⟨hx, hb, hml, hown, hts⟩ hM (cw_post hts rfl rfl (by decide) (by decide)) ⟨PcX_blind w A _ h sa, rc_post hK hP, fun U hU hWm => by
      have h9 := pre_M (vs := [vR 0, .inl x, .inl y]) hWR hK hRM U hU hWm
      rw [List.map_cons, val_ref (by decide : 0 < nC)] at h9
      exact ⟨h9, by rw [hU]; exact XEs_warm hWm hX⟩⟩ rfl rfl hl.1 rfl (lv_room (Nat.le_of_ble_eq_true rfl)) m3_5 ⟨by decide, by decide⟩
  intro T hT X
  rcases hrun T hT X with ⟨v, st₀, t, T', L, h0, X', hL, e1, e2, hF, st⟩ | ⟨q9, st₀, t, T', L, E, ce, h0, X', hL, e1, e2, ⟨hE, hP', hF'⟩, hce, hcv, hcl, st⟩
  · exact hF.elim
  · subst hE
    have hS' : va_S A s.heap T'.heap ([] ++ L) := ⟨by rw [e1, ← h0]; exact hF'.1, fun z g1 g2 => by rw [e1]; rw [← h0] at g1 ⊢; exact hF'.2 z g1 g2, fun z hz => hL z hz⟩
    have kk : W p l e rmY s m (lcV w x y).toArray below meth c T'.heap ([] ++ L) (0 + 1) (0 + 6) (MQ below (QcM w A (some (.inl 1)) h) (lcV w x y).toArray s 1 6 A) (F0 m 13 lsA [.ref q9]) := by
      refine lv_astore hx hb m3_13 hl (by decide) rfl (fun ls2 hl2 => ?_)
      refine lv_iconst hx hb m3_15 (v := 1) (by decide) ?_
      exact W.iret (v := 1) hx hb B.returns (fun t2 ht hW => ⟨rfl, by rw [ht, e1]; exact hP', hS'.F ht, hok, fun z hz => by cases hz; show inI 1; unfold inI; omega⟩) hS'.2.2 m3_16 (hlocks := B.notSynchronized)
    have hcx := vx_catch (own := "CannonPostLaw") (name := nsE) (E := nsE) (ce := ce) (q := q9) (pc := 5) (ls := lsA) (rest := [.int 0, .ref (w.1 120)]) hown [] ⟨0, 10, 13, 13⟩ [] hTab (fun z hz => nomatch hz) (by decide) (by decide) (hts _ lc_w.2.1.2) (va_Nw.use rfl (hX.1 _ (List.mem_of_getElem? (i := 3) rfl))) (by rw [e1]; exact hce) hcv hcl kk
    obtain ⟨t2, a1, b1⟩ := hcx T' rfl X'
    exact ⟨t2, st.trans a1, b1⟩
set_option maxRecDepth 100000 in
theorem L_lc (K : LX p R s m args c cells slots w A) {sa : Nat × Nat} (hX : XEs A sa s s.heap) (h1 : cells + 1 ≤ R.cells) (h2 : slots + 6 ≤ R.slots) (hRf : 71 ≤ R.frames) (hRl : 5030 ≤ R.locals) {h hh : MH} {v x y : Int} {ls : List MV} (hM : Met l yLC (kLC :: gT) rmY (PcX w A [vR 0, .inl x, .inl y, vR 120] h sa) (QcM w A (some (.inl v)) hh) 1 6 A) (g : Wt p l e R s m args below meth c (cells + 1) (slots + 6) Q w A nMe 479 ls [.inl v] hh) : Wt p l e R s m args below meth c cells slots Q w A nMe 476 ls [vR 120, .inl y, .inl x, vR 0] h := by
  obtain ⟨⟨⟨hx, hb, hml, hown, hts⟩, hK, hRM, hz, hroom⟩, -, -⟩ := id K
  intro lsA H locs a1 a2 a3 a4 a5
  have hd : decode (mC nMe) 476 = .ok (.invokestatic 46, 3) := fetch_ok (by decide +kernel : fetch nMe 476 = some (.invokestatic 46, 3))
  have hG : GoodIn gT (kLC :: gT) := by
    intro w9 hw
    have hm : w9 ∈ gT := by
      rcases List.mem_cons.mp hw with e9 | e9
      · rw [e9]; exact lc_w.1.1
      · exact e9
    exact ⟨hm, good_of_word (List.mem_filter.mp hm).2⟩
  have eS : ([vR 120, .inl y, .inl x, vR 0] : List MV).map (val w) = (lcV w x y).reverse ++ [] := by
    rw [List.map_cons, List.map_cons, List.map_cons, List.map_cons, val_ref (by decide : 0 < nC), val_ref (by decide : 120 < nC)]
    rfl
  rw [eS]
  have hrun := vx_runSW (hh := [(0, 10, 13, 13)]) (bytes := method_3_code) (maxL := 5) (ret := some .int) (n := 4) (As := lcV w x y) (rest := ([] : List MV).map (val w)) (g := F0 m 476 lsA ((lcV w x y).reverse ++ [])) (R := R) (cells := cells) (slots := slots) (locs := locs) (below := below) (meth := meth) (e := e) (H := H) ⟨hx, hb, hml, (hown : s.vm.findClass "CannonPostLaw" = some m.cls), hts⟩ hM
    ⟨⟨rfl, rfl, by show 70 + 1 ≤ R.frames; omega, by show 8 + (5 + 11) + 5000 ≤ R.locals; omega, pay_in hts hG, List.mem_cons_self⟩, hts _ lc_w.1.1, hts _ lc_w.2.2, ⟨by decide +kernel, by decide +kernel⟩, fun sig hsig => by
      have hp9 : (parseMethodDescriptor yLC.desc).map (fun d => d.parameters.length) = some 4 := by decide +kernel
      rw [hsig] at hp9
      exact (Option.some.inj hp9).symm, hts _ lc_w.2.1.1, hts _ lc_w.1.2⟩
    ⟨PcX_blind w A _ h sa, fun U hU hWm => by
      have h9 := pre_M (vs := [vR 0, .inl x, .inl y, vR 120]) a5 hK hRM U hU hWm
      rw [lcV_eq] at h9
      exact ⟨h9, by rw [hU]; exact XEs_warm hWm (XEs_kept hX a5.2.2.1.2.1)⟩⟩ rfl rfl a1.1 rfl (lv_room (Nat.le_of_ble_eq_true rfl)) hd ⟨h1, h2⟩
  refine cal_goN a5 hrun (fun H1 locs1 hW1 hov => ?_)
  exact g lsA H1 locs1 a1 a2 a3 (fun z hz => by rw [List.mem_singleton.mp hz]; exact hov _ rfl) hW1
set_option maxRecDepth 100000 in
theorem L_c6 (K : LX p R s m args c cells slots w A) (K2 : LX p R s m args c (cells + 1) (slots + 6) w A) (hl0 : l.stackTraces = false) {sa : Nat × Nat} (hX : XEs A sa s s.heap) (h1 : cells + 1 ≤ R.cells) (h2 : slots + 6 ≤ R.slots) (hRf : 71 ≤ R.frames) (hRl : 5030 ≤ R.locals) {i : Nat} {z5 z6 : MV} {h : MH} {b : Int} {Ws : Nat → WF} (hn : i + 7 ≤ w.2.2.2.2.2) (hm : w.2.2.2.2.2 ≤ 2147483647) (iv : InvX b Ws h)
    (g : ∀ h2 Ws2 z5 z6, InvX b Ws2 h2 → Wt p l e R s m args below meth c (cells + 1) (slots + 6) Q w A nMe 2098 (lsH i z5 z6) [] h2) : Wt p l e R s m args below meth c cells slots Q w A nMe 462 (lsH i z5 z6) [] h := by
  refine Wt_wr (fun hok hsc hsl _ => ?_)
  have hz := K.1.2.2.2.1
  obtain ⟨x, ex⟩ : ∃ x, x = w.2.2.2.2.1 (i + 1) := ⟨_, rfl⟩
  obtain ⟨y, ey⟩ : ∃ y, y = w.2.2.2.2.1 (i + 2) := ⟨_, rfl⟩
  have hin : ∀ j, inI (w.2.2.2.2.1 j) := fun j => by
    rw [← hsc]
    exact okS_i (hok scC j) (by decide +kernel) (by rw [show ft (mk scC).1 j = 9 from by first | rfl | (unfold ft; rw [show ftT.getD (mk scC).1 [] = [] from by decide +kernel]; rfl)]; decide) (by rw [show ft (mk scC).1 j = 9 from by first | rfl | (unfold ft; rw [show ftT.getD (mk scC).1 [] = [] from by decide +kernel]; rfl)]; decide)
  have hix : inI x := by rw [ex]; exact hin _
  have hiy : inI y := by rw [ey]; exact hin _
  have lM : mL 221 = 3 := by decide +kernel
  have lT : mL 177 = 1 := by decide +kernel
  refine L_aload_n K (by decide +kernel : fetch nMe 462 = some (.aload_n 1, 1)) rfl (by decide) rfl ?_
  refine L_args K hn hm [1, 2] 463 [vR 0] (by decide) (by decide +kernel) ?_
  refine L_aload_n K (pc' := 476) (by decide +kernel : fetch nMe (pcA 463 [1, 2]) = some (.aload_n 3, 1)) rfl (by decide) (by decide +kernel) ?_
  show Wt p l e R s m args below meth c cells slots Q w A nMe 476 (lsH i z5 z6) [vR 120, .inl (w.2.2.2.2.1 (i + 2)), .inl (w.2.2.2.2.1 (i + 1)), vR 0] h
  rw [← ex, ← ey]
  have tail : ∀ (v r : Int) (hh h3 : MH), (v = 0 ∧ r = h3 120 0 ∨ v = 1) → h3 97 0 = v → InvX b Ws h3 → Run 40 221 0 [vR 97, .inl x, .inl y] [] hh = some (some (.inl r), h3) →
      Wt p l e R s m args below meth c (cells + 1) (slots + 6) Q w A nMe 479 (lsH i z5 z6) [.inl v] hh := by
    intro v r hh h3 hv ht i3 hrn
    refine L_istore K2 (by decide +kernel : fetch nMe 479 = some (.istore 5, 2)) (show 5 < 7 from by decide) (ls' := lsH i (.inl v) z6) rfl rfl ?_
    refine L_aload_n K2 (by decide +kernel : fetch nMe 481 = some (.aload_n 2, 1)) rfl (by decide) rfl ?_
    refine L_args K2 hn hm [1, 2] 482 [vR 97] (by decide) (by decide +kernel) ?_
    refine L_call K2 (pc' := 497) (a := 97) (k2 := 221) (ic := 51) (cs := [1, 2]) (rest := []) (v := r) (h2 := h3) (by decide +kernel : fetch nMe (pcA 482 [1, 2]) = some (.invokevirtual 51, 3)) (by decide +kernel) (by rw [lM]; decide) (by decide +kernel) (by decide +kernel) (by decide) ?_ ?_
    · rw [ent_eq9 lM rfl]
      show Run 40 221 0 [vR 97, .inl (w.2.2.2.2.1 (i + 1)), .inl (w.2.2.2.2.1 (i + 2))] [] hh = _
      rw [← ex, ← ey]
      exact hrn
    refine L_istore K2 (by decide +kernel : fetch nMe 497 = some (.istore 6, 2)) (show 6 < 7 from by decide) (ls' := lsH i (.inl v) (.inl r)) rfl rfl ?_
    refine L_aload_n K2 (by decide +kernel : fetch nMe 499 = some (.aload_n 2, 1)) rfl (by decide) rfl ?_
    refine L_call K2 (pc' := 503) (a := 97) (k2 := 177) (ic := 52) (cs := []) (rest := []) (v := h3 97 0) (h2 := h3) (by decide +kernel : fetch nMe 500 = some (.invokevirtual 52, 3)) (by decide +kernel) (by rw [lT]; decide) (by decide +kernel) rfl (by decide) ?_ ?_
    · rw [ent_eq9 lT rfl]
      exact q177_0 40 h3
    refine L_iload K2 (by decide +kernel : fetch nMe 503 = some (.iload 5, 2)) rfl rfl ?_
    refine L_icmp_eq_t K2 (by decide +kernel : fetch nMe 505 = some (.if_icmp .eq 5, 3)) (pc' := 510) (by decide) ht ?_
    refine L_iload K2 (by decide +kernel : fetch nMe 510 = some (.iload 5, 2)) rfl rfl ?_
    have fin : Wt p l e R s m args below meth c (cells + 1) (slots + 6) Q w A nMe 527 (lsH i (.inl v) (.inl r)) [] h3 := L_goto K2 (by decide +kernel : fetch nMe 527 = some (.goto 1571, 3)) (pc' := 2098) (by decide) (g h3 Ws _ _ i3)
    rcases hv with ⟨rfl, hr⟩ | rfl
    · refine L_if_ne_f K2 (by decide +kernel : fetch nMe 512 = some (.ifCond .ne 15, 3)) (t := 527) (by decide) rfl (by decide) ?_
      refine L_aload_n K2 (by decide +kernel : fetch nMe 515 = some (.aload_n 3, 1)) rfl (by decide) rfl ?_
      refine L_iconst K2 (by decide +kernel : fetch nMe 516 = some (.iconst 0, 1)) (v := 0) (by decide) rfl ?_
      refine L_lald K2 (by decide +kernel : fetch nMe 517 = some (.laload, 1)) (a := 120) (n := 1) (by decide +kernel) (by decide) rfl ?_
      refine L_iload K2 (by decide +kernel : fetch nMe 518 = some (.iload 6, 2)) rfl rfl ?_
      refine L_i2l K2 (by decide +kernel : fetch nMe 520 = some (.i2l, 1)) rfl ?_
      refine L_lcmp K2 (by decide +kernel : fetch nMe 521 = some (.lcmp, 1)) rfl ?_
      refine L_if_eq_t K2 (by decide +kernel : fetch nMe 522 = some (.ifCond .eq 5, 3)) (pc' := 527) (by decide) ?_ fin
      rw [hr]
      unfold cmpL
      rw [if_neg (by show ¬ h3 120 0 < h3 120 0; omega)]
      exact if_pos (show h3 120 (Int.toNat 0) = h3 120 0 from rfl)
    · exact L_if_ne_t K2 (by decide +kernel : fetch nMe 512 = some (.ifCond .ne 15, 3)) (pc' := 527) (by decide) (by decide) fin
  by_cases q : (0 ≤ x ∧ x < h 2 4) ∧ 0 ≤ y ∧ y ≤ 4
  · obtain ⟨r, c1, c2⟩ := cr_ok iv.1.1 q.1 q.2
    refine L_lc K hX h1 h2 hRf hRl (lc_ok hz sa hix hiy ⟨hok, hsc, hsl⟩ (c1 39)) ?_
    refine tail 0 r (up h 120 0 r) (up (up h 120 0 r) 97 0 0) (Or.inl ⟨rfl, by rw [up_ne (by omega), up_s]⟩) (up_s _ _ _ _) ((FRm_th _ 0).X (InvX_out iv r)) ?_
    exact c2 39 _ (fun a ha => up_ne ha)
  · refine L_lc K hX h1 h2 hRf hRl (lc_thr hl0 hz sa hix hiy ⟨hok, hsc, hsl⟩ q) ?_
    exact tail 1 0 h (up h 97 0 1) (Or.inr rfl) (up_s _ _ _ _) ((FRm_th _ 1).X iv) (cr_no iv.1.1 q 39)
end LCAR
