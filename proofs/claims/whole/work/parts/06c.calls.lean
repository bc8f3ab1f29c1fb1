/-! calls: a callee that keeps to the small machine; rows are copied -/
def okA (st : List MV) : Prop := ∀ v ∈ st, okV v
theorem okA_cons {v : MV} {st : List MV} : okA (v :: st) ↔ okV v ∧ okA st := by simp [okA]
/-- a callee that does as the small machine says -/
def PcM (w : WP) (A : Nat → Prop) (vs : List MV) (h : MH) : Array Value → State → Prop := fun a U =>
  a = (vs.map (val w)).toArray ∧ va_P w.2.2.1 mcl (wS w h) U.heap ∧ va_K w.2.2.1 mcl (tyW w) U ∧ va_D A (wS w h) ∧ RM w A U U.heap
def QcM (w : WP) (A : Nat → Prop) (v : Option MV) (h2 : MH) : Array Value → State → Outcome → State → Prop := fun _ st oc t =>
  oc = .returned (v.map (val w)) ∧ va_P w.2.2.1 mcl (wS w h2) t.heap ∧ va_F A st t ∧ (okH h2 ∧ h2 scC = w.2.2.2.2.1 ∧ slen h2 = w.2.2.2.2.2) ∧ ∀ x, v = some x → okV x
def wsM (k : Nat) : List Jvm.Cond := kW k :: gT
def Cal (l : Launch) (R : Room) (w : WP) (A : Nat → Prop) (k2 : Nat) (vs : List MV) (h : MH) (v : Option MV) (h2 : MH) : Prop :=
  ∃ rm : Room, Met l (mY k2) (wsM k2) rm (PcM w A vs h) (QcM w A v h2) 0 0 A ∧ rm.cells = 0 ∧ rm.slots = 0 ∧ rm.frames + 1 ≤ R.frames ∧ rm.locals + 60 ≤ R.locals
theorem PcM_blind (w : WP) (A : Nat → Prop) (vs : List MV) (h : MH) : FrameBlind (PcM w A vs h) := by
  intro a U g mk ⟨h1, h2, h3, h4, h5⟩
  exact ⟨h1, h2, va_K.moved (u := U) (U := U.calling g mk a) (Vm.Alike.refl U.vm) h3, h4, RM.same (u := U) rfl h5⟩
theorem D_wS {w : WP} {A : Nat → Prop} {h h2 : MH} (hD : va_D A (wS w h)) : va_D A (wS w h2) := by
  have key : ∀ (i : Nat) (q : Nat × va_E), (wS w h2)[i]? = some q → ∃ q0, (wS w h)[i]? = some q0 ∧ q0.1 = q.1 := by
    intro i q hq
    have hi : i < nM := by
      have := (List.getElem?_eq_some_iff.mp hq).1
      rw [wS_len] at this
      exact this
    rw [wS_get hi] at hq
    cases hq
    exact ⟨_, wS_get hi, rfl⟩
  refine ⟨fun i j p q hp hq e => ?_, fun i q hq => ?_⟩
  · obtain ⟨p0, a1, a2⟩ := key i p hp
    obtain ⟨q0, b1, b2⟩ := key j q hq
    exact hD.1 i j p0 q0 a1 b1 (by rw [a2, b2, e])
  · obtain ⟨q0, b1, b2⟩ := key i q hq
    rw [← b2]
    exact hD.2 i q0 b1
theorem good_M {k : Nat} (h : k < nMe) : GoodIn gT (wsM k) := by
  intro q hq
  have hm : q ∈ gT := by
    rcases List.mem_cons.mp hq with e | e
    · rw [e]; exact ok_k h
    · exact e
  exact ⟨hm, good_of_word (List.mem_filter.mp hm).2⟩
theorem m_ok {k : Nat} (h : k < nMe) : (mY k).cls = cnm (mO k) ∧ Jvm.plainName (mY k).cls = true ∧ ((mY k).cls ≠ "java/lang/invoke/MethodHandle" ∧ (mY k).cls ≠ "java/lang/invoke/VarHandle") ∧ mO k ∈ nLst ∧ mL k ≤ 40 := by
  have hr := List.mem_range.mpr h
  have h1 := List.all_eq_true.mp ok_m1 k hr
  have h2 := List.all_eq_true.mp ok_m2 k hr
  have h3 := List.all_eq_true.mp ok_m3 k hr
  have h4 := List.all_eq_true.mp ok_m4 k hr
  have h5 := List.all_eq_true.mp ok_m5 k hr
  simp only [Bool.and_eq_true, decide_eq_true_eq] at h1 h3 h4 h5
  exact ⟨h1, h2, h3, h4, h5⟩
theorem ini_M {k : Nat} (h : k < nMe) {args : Array Value} {s : State} (hts : ∀ q ∈ gT, q.before args s = true) : (Jvm.Cond.initialized (mY k).cls).before args s = true := by
  rw [(m_ok h).1]
  exact hts _ (ok_n _ (List.mem_map.mpr ⟨_, (m_ok h).2.2.2.1, rfl⟩))
theorem rec_ok : ∀ e ∈ vL_, mO e.2.2.1 < 14 := by decide +kernel
theorem nm_ok : ∀ c, c < 13 → (mcl.getD c dC0).1 = cnm c := by decide +kernel
theorem nm_13 : cnm 13 = "java/lang/String" := by decide +kernel
section CLS
variable {p : Program} {l : Launch} {e : Env} {R : Room} {s : State} {m : MethodId} {args : Array Value} {below : List Frame} {meth : Method} {c : Code} {cells slots : Nat} {Q : State → Prop} {w : WP} {A : Nat → Prop} {H : Heap} {locs : List Loc}
/-- behind a call -/
theorem cal_go {pc : Nat} {lsA : Array Slot} {st0 : List Value} {a : Array Value} {rest : List MV} {h h2 : MH} {v : Option MV} (hw : WR w A s h H locs)
    (hr : va_Run p l e R s m args below meth c H locs cells slots 0 0 (F0 m pc lsA st0) (rest.map (val w)) (QcM w A v h2 a) A)
    (kk : ∀ (H1 : Heap) (locs1 : List Loc), WR w A s h2 H1 locs1 → (∀ x, v = some x → okV x) → W p l e R s m args below meth c H1 locs1 cells slots Q (F0 m (pc + 3) lsA ((v.toList ++ rest).map (val w)))) :
    W p l e R s m args below meth c H locs cells slots Q (F0 m pc lsA st0) := by
  intro T hT X
  obtain ⟨v1, s0, t, T1, L, e0, X1, hL, e1, e2, ⟨q1, q2, ⟨q3, q4⟩, hk2, hov⟩, st⟩ := hr T hT X
  cases q1
  rw [e0] at q3 q4
  have hS := hw.2.2.1
  have hW1 : WR w A s h2 T1.heap (locs ++ L) := by
    refine ⟨by rw [e1]; exact q2, D_wS hw.2.1, ⟨?_, fun q g1 g2 => ?_, fun q hq => ?_⟩, hk2⟩
    · rw [e1]; exact Nat.le_trans hS.1 q3
    · rw [e1, q4 q (Nat.lt_of_lt_of_le g1 hS.1) g2]
      exact hS.2.1 q g1 g2
    · rcases List.mem_append.mp hq with g | g
      · exact hS.2.2 q g
      · exact hL q g
  have hst : ((v.toList ++ rest).map (val w)) = (v.map (val w)).toList ++ rest.map (val w) := by
    cases v <;> simp
  have hk := kk T1.heap (locs ++ L) hW1 hov
  rw [hst] at hk
  obtain ⟨t2, a1, b1⟩ := hk T1 rfl X1
  exact ⟨t2, st t2 a1, b1⟩
theorem pre_M {vs : List MV} {h : MH} (hw : WR w A s h H locs) (hK : va_K w.2.2.1 mcl (tyW w) s) (hRM : RM w A s s.heap) (U : State) (hU : U.heap = H) (hW : s.WarmedH U.vm) : PcM w A vs h ((vs.map (val w)).toArray) U := by
  refine ⟨rfl, by rw [hU]; exact hw.1, va_K.moved hW.alike hK, hw.2.1, ?_⟩
  rw [hU]
  exact RM.warm hW (hRM.kept hw.2.2.1.1 hw.2.2.1.2.1)
/-- a row of ints is copied into one of the world's, from any cell that holds ints -/
theorem cp_row {k pc : Nat} {lsA : Array Slot} {rest : List MV} {h : MH} {i : Nat} (hx : p.tables.exec = Jvm.exec) (hb : c.code = mC k) (hml : c.maxLocals = lsA.size) (hown : s.vm.findClass (cnm (mO k)) = some m.cls) (hts : ∀ q ∈ gT, q.before args s = true) (hi : (mO k, i) ∈ aL)
    (hK : va_K w.2.2.1 mcl (tyW w) s) (hw : WR w A s h H locs) (hz : w.2.1.category = 1) (hR : 1 ≤ R.frames ∧ 60 ≤ R.locals) {src : Nat} {cs : Cell} {n0 : Nat} {f : Nat → Int} (hc0 : H[src]? = some cs) (hs2 : s.isArrayOf cs .int) (hs3 : cs.vm ≠ .unknown) (hs4 : n0 ≤ cs.slots.size) (hs5 : ∀ j, j < n0 → cs.slots[j]? = some (.int (Int32.ofInt (f j)))) (hf : ∀ j, inI (f j))
    {d : Nat} (hd1 : (mk d).1 = 100) {sp dp n : Int} (h1 : 0 ≤ sp) (h2 : 0 ≤ dp) (h3 : 0 ≤ n) (ir : inI sp ∧ inI dp ∧ inI n) (h4 : sp + n ≤ n0) (h5 : dp + n ≤ (mk d).2) (hos : okA rest) (hcat : cats rest ≤ 8) (hdg : decode (mC k) pc = .ok (.invokestatic i, 3))
    (kk : ∀ (H1 : Heap) (locs1 : List Loc), WR w A s (cpy h f d sp.toNat dp.toNat n.toNat) H1 locs1 → W p l e R s m args below meth c H1 locs1 cells slots Q (F0 m (pc + 3) lsA (rest.map (val w)))) :
    W p l e R s m args below meth c H locs cells slots Q (F0 m pc lsA (.int (Int32.ofInt n) :: .int (Int32.ofInt dp) :: .ref (w.1 d) :: .int (Int32.ofInt sp) :: .ref src :: rest.map (val w))) := by
  obtain ⟨i1, i2, i3⟩ := ir
  obtain ⟨hdM, hdC⟩ := mk_mut (a := d) (by omega)
  have ng : ∀ z : Int, 0 ≤ z → inI z → ¬ Int32.ofInt z < 0 := fun z a b q => by
    have := (i32_lt (y := 0) b (by unfold inI; omega)).mp q
    omega
  have hg : (wS w h)[d]? = some (w.1 d, .inl (w.2.2.2.1 0, (mk d).2, .inl (fun i => Int32.ofInt (h d i)))) := by rw [wS_get hdM, cE_100 hd1]
  have hc1 := hw.1 d _ hg
  have c1 := clamp_nat i1
  have c2 := clamp_nat i2
  have c3 := clamp_nat i3
  intro T hT X
  obtain ⟨hs6, k0, hk0, cm0, hkk0⟩ := hs2
  obtain ⟨-, k1, hk1, cm1, hkk1⟩ := (hK.2 0 _ rfl).1 (mk d).2 (fun j => .int (Int32.ofInt (h d j)))
  obtain ⟨vm1, X1, step⟩ := X.arraycopy hx hown (hts _ (ok_a _ (List.mem_map.mpr ⟨_, hi, rfl⟩))) (hts _ (ok_x _ (by simp))) (hts _ (ok_x _ (by simp))) (hts _ ok_sys) (src := src) (dst := w.1 d) (cs := cs) (cd := vp_cell (w.2.2.2.1 0) ((mk d).2, .inl (fun i => Int32.ofInt (h d i)))) (srcPos := Int32.ofInt sp) (destPos := Int32.ofInt dp) (n := Int32.ofInt n)
    (by rw [hT]; exact hc0) (by rw [hT]; exact hc1) hs6 (fun _ q => by cases q) hs3 (fun q => by cases q) hk0 hk1 hkk0 hkk1 (by simp [refKind]) (ng _ h1 i1) (ng _ h2 i2) (ng _ h3 i3)
    (by rw [i32_id i1, i32_id i3]; omega)
    (by rw [i32_id i2, i32_id i3]; show ¬ _ > ((arrV _ _ _).slots.size : Int); rw [arrV_size]; omega)
    (fun vm2 _ j hj => by
      rw [c3] at hj
      have e1 : cs.slots.getD ((Int32.ofInt sp).toNatClampNeg + j) .null = .int (Int32.ofInt (f (sp.toNat + j))) := by
        rw [c1, Array.getD_eq_getD_getElem?, hs5 _ (by omega)]
        rfl
      rw [e1]
      exact ⟨rfl, trivial⟩)
    (g := F0 m pc lsA (.int (Int32.ofInt n) :: .int (Int32.ofInt dp) :: .ref (w.1 d) :: .int (Int32.ofInt sp) :: .ref src :: rest.map (val w))) rfl (by rw [hml]) (rest := rest.map (val w)) rfl (by rw [hb]; exact hdg) hR.1 (by
      have hnw : nativeFrameWords "java/lang/System" "arraycopy" 5 = 7 := by decide +kernel
      rw [hnw, cats_val w hos hz]
      show 2 * 0 + _ + _ ≤ _
      omega)
  have ec : copied cs (vp_cell (w.2.2.2.1 0) ((mk d).2, .inl (fun i => Int32.ofInt (h d i)))) (Int32.ofInt sp) (Int32.ofInt dp) (Int32.ofInt n) = vp_cell (w.2.2.2.1 0) ((mk d).2, .inl (fun y => Int32.ofInt (if dp.toNat ≤ y ∧ y < dp.toNat + n.toNat then f (sp.toNat + (y - dp.toNat)) else h d y))) := by
    have e9 := va_copiedX (fun z => .int z) cs (w.2.2.2.1 0) (n0 := n0) (n1 := (mk d).2) (sp := (Int32.ofInt sp).toNatClampNeg) (dp := (Int32.ofInt dp).toNatClampNeg) (n := (Int32.ofInt n).toNatClampNeg) (fun j => Int32.ofInt (f j)) (fun i => Int32.ofInt (h d i)) hs5 (by rw [c1, c3]; omega)
    have e8 : copied cs (vp_cell (w.2.2.2.1 0) ((mk d).2, .inl (fun i => Int32.ofInt (h d i)))) (Int32.ofInt sp) (Int32.ofInt dp) (Int32.ofInt n) = _ := e9
    rw [e8, vp_cell_i, c1, c2, c3]
    congr 1
    funext y
    unfold va_cpy
    by_cases q : dp.toNat ≤ y ∧ y < dp.toNat + n.toNat
    · rw [if_pos q, if_pos q]
    · rw [if_neg q, if_neg q]
  rw [ec] at X1 step
  generalize hE : (fun y => Int32.ofInt (if dp.toNat ≤ y ∧ y < dp.toNat + n.toNat then f (sp.toNat + (y - dp.toNat)) else h d y)) = F at X1 step
  have hl : w.1 d < H.size := (Array.getElem?_eq_some_iff.mp hc1).1
  have hheap : ((T.setVm vm1).setCell (w.1 d) (vp_cell (w.2.2.2.1 0) ((mk d).2, .inl F))).heap = H.setIfInBounds (w.1 d) (vp_cell (w.2.2.2.1 0) ((mk d).2, .inl F)) := by rw [← hT]; rfl
  have oq : ∀ q : Nat, q ≠ w.1 d → (H.setIfInBounds (w.1 d) (vp_cell (w.2.2.2.1 0) ((mk d).2, .inl F)))[q]? = H[q]? := fun q hq => by simp [Array.getElem?_setIfInBounds, Ne.symm hq]
  have hS := hw.2.2.1
  have hAd : A (w.1 d) := hw.2.1.2 d _ hg
  obtain ⟨t, a1, b1⟩ := kk _ _ (WR_cpy hw hd1 (E := .inl (w.2.2.2.1 0, (mk d).2, .inl F)) (by rw [cE_100 hd1, ← hE]) hf (hw.1.set hw.2.1 hg (show (H.setIfInBounds (w.1 d) _)[w.1 d]? = some _ by simp [Array.getElem?_setIfInBounds, hl]) oq) (hw.2.1.set hg) ⟨by simp; exact hS.1, fun q g1 g2 => by
      rw [oq q (fun z => g2 (by rw [z]; exact hAd))]
      exact hS.2.1 q g1 g2, fun q hq => by
      rcases List.mem_append.mp hq with g | g
      · exact hS.2.2 q g
      · obtain ⟨z, -, hz⟩ := List.mem_map.mp g
        rw [← hz]
        exact hAd⟩) _ hheap X1
  exact ⟨t, step t a1, b1⟩
end CLS
