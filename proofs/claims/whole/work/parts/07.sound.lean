/-! one step of the small machine is a step of the machine -/
def CX (p : Program) (R : Room) (s : State) (m : MethodId) (args : Array Value) (c : Code) (cells slots : Nat) (w : WP) (A : Nat → Prop) (k : Nat) : Prop :=
  (p.tables.exec = Jvm.exec ∧ c.code = mC k ∧ c.maxLocals = mL k ∧ s.vm.findClass (cnm (mO k)) = some m.cls ∧ ∀ q ∈ gT, q.before args s = true) ∧
  va_K w.2.2.1 mcl (tyW w) s ∧ RM w A s s.heap ∧ w.2.1.category = 1 ∧ (1 ≤ R.frames ∧ 60 ≤ R.locals ∧ cells ≤ R.cells ∧ slots ≤ R.slots)
def Wt (p : Program) (l : Launch) (e : Env) (R : Room) (s : State) (m : MethodId) (args : Array Value) (below : List Frame) (meth : Method) (c : Code) (cells slots : Nat) (Q : State → Prop) (w : WP) (A : Nat → Prop) (k pc : Nat) (ls st : List MV) (h : MH) : Prop :=
  ∀ (lsA : Array Slot) (H : Heap) (locs : List Loc), lv_has lsA (mL k) (asc w 0 ls) → ls.length = mL k → (∀ v ∈ ls, okL v) → okA st → WR w A s h H locs → W p l e R s m args below meth c H locs cells slots Q (F0 m pc lsA (st.map (val w)))
theorem fetch_ok {k pc : Nat} {r : Instr × Nat} (h : fetch k pc = some r) : decode (mC k) pc = .ok r := by
  unfold fetch at h
  split at h
  · rename_i r2 e; cases h; exact e
  · cases h
theorem fl_mem {o i : Nat} {q : Nat × Nat} (h : fl o i = some q) : (o, i, q) ∈ fL := by
  unfold fl at h
  obtain ⟨e, h1, h2⟩ := Option.map_eq_some_iff.mp h
  have h3 := List.find?_some h1
  simp only [Bool.and_eq_true, beq_iff_eq] at h3
  have h4 := List.mem_of_find?_eq_some h1
  obtain ⟨a, b, c⟩ := e
  cases h3.1; cases h3.2; cases h2
  exact h4
theorem vl_mem {o i : Nat} {q : Nat × Nat} (h : vl o i = some q) : (o, i, q) ∈ vL_ := by
  unfold vl at h
  obtain ⟨e, h1, h2⟩ := Option.map_eq_some_iff.mp h
  have h3 := List.find?_some h1
  simp only [Bool.and_eq_true, beq_iff_eq] at h3
  have h4 := List.mem_of_find?_eq_some h1
  obtain ⟨a, b, c⟩ := e
  cases h3.1; cases h3.2; cases h2
  exact h4
theorem sl_mem {o i : Nat} {q : Nat × Nat} (h : sl o i = some q) : (o, i, q) ∈ sL := by
  unfold sl at h
  obtain ⟨e, h1, h2⟩ := Option.map_eq_some_iff.mp h
  have h3 := List.find?_some h1
  simp only [Bool.and_eq_true, beq_iff_eq] at h3
  have h4 := List.mem_of_find?_eq_some h1
  obtain ⟨a, b, c⟩ := e
  cases h3.1; cases h3.2; cases h2
  exact h4
theorem cl_mem {o i : Nat} {q : Int} (h : cl_ o i = some q) : (o, i, q) ∈ cL := by
  unfold cl_ at h
  obtain ⟨e, h1, h2⟩ := Option.map_eq_some_iff.mp h
  have h3 := List.find?_some h1
  simp only [Bool.and_eq_true, beq_iff_eq] at h3
  have h4 := List.mem_of_find?_eq_some h1
  obtain ⟨a, b, c⟩ := e
  cases h3.1; cases h3.2; cases h2
  exact h4
theorem ll_mem {o i : Nat} {q : Int} (h : ll o i = some q) : (o, i, q) ∈ lL := by
  unfold ll at h
  obtain ⟨e, h1, h2⟩ := Option.map_eq_some_iff.mp h
  have h3 := List.find?_some h1
  simp only [Bool.and_eq_true, beq_iff_eq] at h3
  have h4 := List.mem_of_find?_eq_some h1
  obtain ⟨a, b, c⟩ := e
  cases h3.1; cases h3.2; cases h2
  exact h4
theorem rl_mem {o i : Nat} {q : Nat} (h : rl o i = some q) : (o, i, q) ∈ rL := by
  unfold rl at h
  obtain ⟨e, h1, h2⟩ := Option.map_eq_some_iff.mp h
  have h3 := List.find?_some h1
  simp only [Bool.and_eq_true, beq_iff_eq] at h3
  have h4 := List.mem_of_find?_eq_some h1
  obtain ⟨a, b, c⟩ := e
  cases h3.1; cases h3.2; cases h2
  exact h4
theorem ml_mem {o i : Nat} {q : Nat} (h : ml o i = some q) : (o, i, q) ∈ hL := by
  unfold ml at h
  obtain ⟨e, h1, h2⟩ := Option.map_eq_some_iff.mp h
  have h3 := List.find?_some h1
  simp only [Bool.and_eq_true, beq_iff_eq] at h3
  have h4 := List.mem_of_find?_eq_some h1
  obtain ⟨a, b, c⟩ := e
  cases h3.1; cases h3.2; cases h2
  exact h4
theorem gl_mem {o i : Nat} {r : Nat × Nat} (h : gl o i = some r) : ∃ q ∈ gL.zip gN, q.1.1 = o ∧ q.1.2.1 = i ∧ q.1.2.2 = r := by
  unfold gl at h
  obtain ⟨e, h1, h2⟩ := Option.map_eq_some_iff.mp h
  have h3 := List.find?_some h1
  simp only [Bool.and_eq_true, beq_iff_eq] at h3
  have h4 := List.mem_of_find?_eq_some h1
  have h5 : ∀ e ∈ gL, ∃ q ∈ gL.zip gN, q.1 = e := by decide +kernel
  obtain ⟨q, hq, e1⟩ := h5 e h4
  exact ⟨q, hq, by rw [e1]; exact h3.1, by rw [e1]; exact h3.2, by rw [e1]; exact h2⟩
theorem cl_in : ∀ e ∈ cL, inI e.2.2 := by
  have h : ∀ e ∈ cL, -2147483648 ≤ e.2.2 ∧ e.2.2 ≤ 2147483647 := by decide +kernel
  exact h
theorem ll_in : ∀ e ∈ lL, inL e.2.2 := by
  have h : ∀ e ∈ lL, -9223372036854775808 ≤ e.2.2 ∧ e.2.2 ≤ 9223372036854775807 := by decide +kernel
  exact h
theorem rl_lt : ∀ e ∈ rL, e.2.2 < nC := by decide +kernel
theorem gl_in : ∀ q ∈ gL.zip gN, q.1.2.2.1 = 0 → ∀ v : Nat, q.1.2.2.2 = v → inI (v : Int) := by
  have h : ∀ q ∈ gL.zip gN, q.1.2.2.1 = 0 → q.1.2.2.2 ≤ 2147483647 := by decide +kernel
  intro q hq h0 v hv
  have := h q hq h0
  unfold inI
  omega
section SND
variable {p : Program} {l : Launch} {e : Env} {R : Room} {s : State} {m : MethodId} {args : Array Value} {below : List Frame} {meth : Method} {c : Code} {cells slots : Nat} {Q : State → Prop} {w : WP} {A : Nat → Prop} {k : Nat}
set_option maxRecDepth 100000 in
set_option maxHeartbeats 8000000 in
theorem stp_ok (C : CX p R s m args c cells slots w A k) {pc : Nat} {ls st : List MV} {h : MH} {rt : Option MV → Prop}
    (hR : ∀ (v : Option MV) (lsA : Array Slot) (H : Heap) (locs : List Loc), rt v → (∀ x, v = some x → okV x) → ((decode (mC k) pc = .ok (.ireturn, 1) ∧ ∃ x, v = some (.inl x) ∧ okR (mR k) x = true) ∨ (decode (mC k) pc = .ok (.lreturn, 1) ∧ mR k = some .long ∧ ∃ x, v = some (.inr (.inl x))) ∨ (decode (mC k) pc = .ok (.return_, 1) ∧ mR k = none ∧ v = none)) → WR w A s h H locs → W p l e R s m args below meth c H locs cells slots Q (F0 m pc lsA (v.toList.map (val w))))
    (hs : stp k pc ls st h (fun pc ls st h => Wt p l e R s m args below meth c cells slots Q w A k pc ls st h)
      (fun k2 vs pc2 rest => ∃ v h2, (k2 < nMe → okA vs → (ent vs).length ≤ mL k2 → (okH h ∧ h scC = w.2.2.2.2.1 ∧ slen h = w.2.2.2.2.2) → Cal l R w A k2 vs h v h2) ∧ Wt p l e R s m args below meth c cells slots Q w A k pc2 ls (v.toList ++ rest) h2) rt False) :
    Wt p l e R s m args below meth c cells slots Q w A k pc ls st h := by
  obtain ⟨⟨hx, hb, hml, hown, hts⟩, hK, hRM, hz, hroom⟩ := id C
  intro lsA H locs hL hn hol hos hWR
  unfold stp at hs
  cases hf : fetch k pc with
  | none => rw [hf] at hs; exact hs.elim
  | some il =>
  obtain ⟨i, len⟩ := il
  rw [hf] at hs
  have hd := fetch_ok hf
  clear hf
  dsimp only at hs
  cases i
  case iconst n =>
    dsimp only at hs
    split at hs
    · rename_i q
      subst q
      exact lv_iconst hx hb hd (i32_w n).symm (hs lsA H locs hL hn hol (okA_cons.mpr ⟨wI_in n, hos⟩) hWR)
    · exact hs.elim
  case bipush n =>
    dsimp only at hs
    split at hs
    · rename_i q
      subst q
      exact lv_bipush hx hb hd (by rw [toB_of, Int32.toInt8_ofInt]) (hs lsA H locs hL hn hol (okA_cons.mpr ⟨i32_in _, hos⟩) hWR)
    · exact hs.elim
  case sipush n =>
    dsimp only at hs
    split at hs
    · rename_i q
      subst q
      exact lv_sipush hx hb hd (i32_of _).symm (hs lsA H locs hL hn hol (okA_cons.mpr ⟨i32_in _, hos⟩) hWR)
    · exact hs.elim
  case lconst n =>
    dsimp only at hs
    split at hs
    · rename_i q
      subst q
      have hn2 : n.val < 2 := n.isLt
      exact lv_lconst hx hb hd (by match n with
        | 0 => rfl
        | 1 => rfl) (hs lsA H locs hL hn hol (okA_cons.mpr ⟨(by show inL _; unfold inL; omega), hos⟩) hWR)
    · exact hs.elim
  case iload_n n =>
    dsimp only at hs
    split at hs
    · rename_i q
      subst q
      split at hs
      · rename_i x hx0
        have hv : okV (.inl x) := by
          rcases hol _ (List.mem_of_getElem? hx0) with q | q
          · cases q
          · exact q
        exact lv_iload_n hx hb hd rfl (asc_get hL hx0 (by intro q; cases q)) (hs lsA H locs hL hn hol (okA_cons.mpr ⟨hv, hos⟩) hWR)
      · exact hs.elim
    · exact hs.elim
  case iload n =>
    dsimp only at hs
    split at hs
    · rename_i q
      subst q
      split at hs
      · rename_i x hx0
        have hv : okV (.inl x) := by
          rcases hol _ (List.mem_of_getElem? hx0) with q | q
          · cases q
          · exact q
        exact lv_iload hx hb hd (asc_get hL hx0 (by intro q; cases q)) (hs lsA H locs hL hn hol (okA_cons.mpr ⟨hv, hos⟩) hWR)
      · exact hs.elim
    · exact hs.elim
  case lload_n n =>
    dsimp only at hs
    split at hs
    · rename_i q
      subst q
      split at hs
      · rename_i x hx0
        have hv : okV (.inr (.inl x)) := by
          rcases hol _ (List.mem_of_getElem? hx0) with q | q
          · cases q
          · exact q
        exact lv_lload_n hx hb hd rfl (asc_get hL hx0 (by intro q; cases q)) (hs lsA H locs hL hn hol (okA_cons.mpr ⟨hv, hos⟩) hWR)
      · exact hs.elim
    · exact hs.elim
  case lload n =>
    dsimp only at hs
    split at hs
    · rename_i q
      subst q
      split at hs
      · rename_i x hx0
        have hv : okV (.inr (.inl x)) := by
          rcases hol _ (List.mem_of_getElem? hx0) with q | q
          · cases q
          · exact q
        exact lv_lload hx hb hd (asc_get hL hx0 (by intro q; cases q)) (hs lsA H locs hL hn hol (okA_cons.mpr ⟨hv, hos⟩) hWR)
      · exact hs.elim
    · exact hs.elim
  case aload_n n =>
    dsimp only at hs
    split at hs
    · rename_i q
      subst q
      split at hs
      · rename_i a hx0
        split at hs
        · rename_i ha
          refine lv_aload_n (x := w.1 a) hx hb hd rfl (by rw [← val_ref ha]; exact asc_get hL hx0 (by intro q; cases q)) ?_
          have h9 := hs lsA H locs hL hn hol (okA_cons.mpr ⟨trivial, hos⟩) hWR
          rw [List.map_cons, val_ref ha] at h9
          exact h9
        · exact hs.elim
      · exact hs.elim
    · exact hs.elim
  case aload n =>
    dsimp only at hs
    split at hs
    · rename_i q
      subst q
      split at hs
      · rename_i a hx0
        split at hs
        · rename_i ha
          refine lv_aload (x := w.1 a) hx hb hd (by rw [← val_ref ha]; exact asc_get hL hx0 (by intro q; cases q)) ?_
          have h9 := hs lsA H locs hL hn hol (okA_cons.mpr ⟨trivial, hos⟩) hWR
          rw [List.map_cons, val_ref ha] at h9
          exact h9
        · exact hs.elim
      · exact hs.elim
    · exact hs.elim
  case istore_n n =>
    dsimp only at hs
    split at hs
    · rename_i q
      subst q
      split at hs
      · rename_i x stk
        obtain ⟨hv, hos⟩ := okA_cons.mp hos
        split at hs
        · rename_i hlt
          exact lv_istore_n hx hb hd rfl hL (by rw [← hn]; exact hlt) rfl (fun ls2 hL2 => hs ls2 H locs (asc_st1 hz hol hlt hL2) ((st1_len _ _ _).trans hn) (okL_st1 hol hv) hos hWR)
        · exact hs.elim
      · exact hs.elim
    · exact hs.elim
  case istore n =>
    dsimp only at hs
    split at hs
    · rename_i q
      subst q
      split at hs
      · rename_i x stk
        obtain ⟨hv, hos⟩ := okA_cons.mp hos
        split at hs
        · rename_i hlt
          exact lv_istore hx hb hd hL (by rw [← hn]; exact hlt) rfl (fun ls2 hL2 => hs ls2 H locs (asc_st1 hz hol hlt hL2) ((st1_len _ _ _).trans hn) (okL_st1 hol hv) hos hWR)
        · exact hs.elim
      · exact hs.elim
    · exact hs.elim
  case lstore_n n =>
    dsimp only at hs
    split at hs
    · rename_i q
      subst q
      split at hs
      · rename_i x stk
        obtain ⟨hv, hos⟩ := okA_cons.mp hos
        split at hs
        · rename_i hlt
          exact lv_lstore_n hx hb hd rfl hL (by rw [← hn]; exact hlt) rfl (fun ls2 hL2 => hs ls2 H locs (asc_st2 hz hol hlt hL2) ((st2_len _ _ _).trans hn) (okL_st2 hol hv) hos hWR)
        · exact hs.elim
      · exact hs.elim
    · exact hs.elim
  case lstore n =>
    dsimp only at hs
    split at hs
    · rename_i q
      subst q
      split at hs
      · rename_i x stk
        obtain ⟨hv, hos⟩ := okA_cons.mp hos
        split at hs
        · rename_i hlt
          exact lv_lstore hx hb hd hL (by rw [← hn]; exact hlt) rfl (fun ls2 hL2 => hs ls2 H locs (asc_st2 hz hol hlt hL2) ((st2_len _ _ _).trans hn) (okL_st2 hol hv) hos hWR)
        · exact hs.elim
      · exact hs.elim
    · exact hs.elim
  case astore_n n =>
    dsimp only at hs
    split at hs
    · rename_i q
      subst q
      split at hs
      · rename_i a stk
        obtain ⟨hv, hos⟩ := okA_cons.mp hos
        split at hs
        · rename_i hlt
          rw [List.map_cons, val_ref hlt.2]
          exact lv_astore_n hx hb hd rfl hL (by rw [← hn]; exact hlt.1) rfl (fun ls2 hL2 => hs ls2 H locs (asc_st1 hz hol hlt.1 (by rw [val_ref hlt.2]; exact hL2)) ((st1_len _ _ _).trans hn) (okL_st1 hol hv) hos hWR)
        · exact hs.elim
      · exact hs.elim
    · exact hs.elim
  case astore n =>
    dsimp only at hs
    split at hs
    · rename_i q
      subst q
      split at hs
      · rename_i a stk
        obtain ⟨hv, hos⟩ := okA_cons.mp hos
        split at hs
        · rename_i hlt
          rw [List.map_cons, val_ref hlt.2]
          exact lv_astore hx hb hd hL (by rw [← hn]; exact hlt.1) rfl (fun ls2 hL2 => hs ls2 H locs (asc_st1 hz hol hlt.1 (by rw [val_ref hlt.2]; exact hL2)) ((st1_len _ _ _).trans hn) (okL_st1 hol hv) hos hWR)
        · exact hs.elim
      · exact hs.elim
    · exact hs.elim
  case iinc n d =>
    dsimp only at hs
    split at hs
    · rename_i q
      subst q
      split at hs
      · rename_i x hx0
        have hv : okV (.inl x) := by
          rcases hol _ (List.mem_of_getElem? hx0) with q | q
          · cases q
          · exact q
        have hlt : n < ls.length := (List.getElem?_eq_some_iff.mp hx0).1
        obtain ⟨kk, hkk⟩ := List.getElem?_of_mem ((asc_mem w ls 0 (n, val w (.inl x))).mpr ⟨n, .inl x, hx0, (by intro q; cases q), by simp⟩)
        exact lv_iinc hx hb hd hL hkk (i32_add x d) (by rw [← hn]; exact hlt) rfl (fun ls2 hL2 => hs ls2 H locs (asc_st1 (v := .inl (wI (x + d))) hz hol hlt hL2) ((st1_len _ _ _).trans hn) (okL_st1 hol (wI_in _)) hos hWR)
      · exact hs.elim
    · exact hs.elim
  case iadd =>
    dsimp only at hs
    split at hs
    · rename_i q
      subst q
      split at hs
      · rename_i y x stk
        obtain ⟨hy, hos⟩ := okA_cons.mp hos
        obtain ⟨hx1, hos⟩ := okA_cons.mp hos
        refine lv_iadd hx hb hd ?_
        rw [i32_add]
        exact hs lsA H locs hL hn hol (okA_cons.mpr ⟨wI_in _, hos⟩) hWR
      · exact hs.elim
    · exact hs.elim
  case isub =>
    dsimp only at hs
    split at hs
    · rename_i q
      subst q
      split at hs
      · rename_i y x stk
        obtain ⟨hy, hos⟩ := okA_cons.mp hos
        obtain ⟨hx1, hos⟩ := okA_cons.mp hos
        refine lv_isub hx hb hd ?_
        rw [i32_sub]
        exact hs lsA H locs hL hn hol (okA_cons.mpr ⟨wI_in _, hos⟩) hWR
      · exact hs.elim
    · exact hs.elim
  case imul =>
    dsimp only at hs
    split at hs
    · rename_i q
      subst q
      split at hs
      · rename_i y x stk
        obtain ⟨hy, hos⟩ := okA_cons.mp hos
        obtain ⟨hx1, hos⟩ := okA_cons.mp hos
        refine lv_imul hx hb hd ?_
        rw [i32_mul]
        exact hs lsA H locs hL hn hol (okA_cons.mpr ⟨wI_in _, hos⟩) hWR
      · exact hs.elim
    · exact hs.elim
  case ladd =>
    dsimp only at hs
    split at hs
    · rename_i q
      subst q
      split at hs
      · rename_i y x stk
        obtain ⟨hy, hos⟩ := okA_cons.mp hos
        obtain ⟨hx1, hos⟩ := okA_cons.mp hos
        refine lv_ladd hx hb hd ?_
        rw [i64_add]
        exact hs lsA H locs hL hn hol (okA_cons.mpr ⟨wL_in _, hos⟩) hWR
      · exact hs.elim
    · exact hs.elim
  case lsub =>
    dsimp only at hs
    split at hs
    · rename_i q
      subst q
      split at hs
      · rename_i y x stk
        obtain ⟨hy, hos⟩ := okA_cons.mp hos
        obtain ⟨hx1, hos⟩ := okA_cons.mp hos
        refine lv_lsub hx hb hd ?_
        rw [i64_sub]
        exact hs lsA H locs hL hn hol (okA_cons.mpr ⟨wL_in _, hos⟩) hWR
      · exact hs.elim
    · exact hs.elim
  case lmul =>
    dsimp only at hs
    split at hs
    · rename_i q
      subst q
      split at hs
      · rename_i y x stk
        obtain ⟨hy, hos⟩ := okA_cons.mp hos
        obtain ⟨hx1, hos⟩ := okA_cons.mp hos
        refine lv_lmul hx hb hd ?_
        rw [i64_mul]
        exact hs lsA H locs hL hn hol (okA_cons.mpr ⟨wL_in _, hos⟩) hWR
      · exact hs.elim
    · exact hs.elim
  case lcmp =>
    dsimp only at hs
    split at hs
    · rename_i q
      subst q
      split at hs
      · rename_i y x stk
        obtain ⟨hy, hos⟩ := okA_cons.mp hos
        obtain ⟨hx1, hos⟩ := okA_cons.mp hos
        refine W.lcmp hx hb hd ?_
        rw [← cmpL_of hx1 hy]
        exact hs lsA H locs hL hn hol (okA_cons.mpr ⟨cmpL_in _ _, hos⟩) hWR
      · exact hs.elim
    · exact hs.elim
  case iand =>
    dsimp only at hs
    split at hs
    · rename_i q
      subst q
      split at hs
      · rename_i y x stk
        obtain ⟨hy, hos⟩ := okA_cons.mp hos
        obtain ⟨hx1, hos⟩ := okA_cons.mp hos
        refine lv_iand hx hb hd ?_
        rw [show Int32.ofInt x &&& Int32.ofInt y = Int32.ofInt (iAnd x y) from (xI_of _ x y).symm]
        exact hs lsA H locs hL hn hol (okA_cons.mpr ⟨xI_in _ _ _, hos⟩) hWR
      · exact hs.elim
    · exact hs.elim
  case ior =>
    dsimp only at hs
    split at hs
    · rename_i q
      subst q
      split at hs
      · rename_i y x stk
        obtain ⟨hy, hos⟩ := okA_cons.mp hos
        obtain ⟨hx1, hos⟩ := okA_cons.mp hos
        refine lv_ior hx hb hd ?_
        rw [show Int32.ofInt x ||| Int32.ofInt y = Int32.ofInt (iOr x y) from (xI_of _ x y).symm]
        exact hs lsA H locs hL hn hol (okA_cons.mpr ⟨xI_in _ _ _, hos⟩) hWR
      · exact hs.elim
    · exact hs.elim
  case ixor =>
    dsimp only at hs
    split at hs
    · rename_i q
      subst q
      split at hs
      · rename_i y x stk
        obtain ⟨hy, hos⟩ := okA_cons.mp hos
        obtain ⟨hx1, hos⟩ := okA_cons.mp hos
        refine lv_ixor hx hb hd ?_
        rw [show Int32.ofInt x ^^^ Int32.ofInt y = Int32.ofInt (iXor x y) from (xI_of _ x y).symm]
        exact hs lsA H locs hL hn hol (okA_cons.mpr ⟨xI_in _ _ _, hos⟩) hWR
      · exact hs.elim
    · exact hs.elim
  case ishl =>
    dsimp only at hs
    split at hs
    · rename_i q
      subst q
      split at hs
      · rename_i y x stk
        obtain ⟨hy, hos⟩ := okA_cons.mp hos
        obtain ⟨hx1, hos⟩ := okA_cons.mp hos
        refine lv_ishl hx hb hd ?_
        rw [show Int32.ofInt x <<< (Int32.ofInt y &&& 31) = Int32.ofInt (iShl x y) from (i32_of (Int32.ofInt x <<< (Int32.ofInt y &&& 31))).symm]
        exact hs lsA H locs hL hn hol (okA_cons.mpr ⟨xI_in _ _ _, hos⟩) hWR
      · exact hs.elim
    · exact hs.elim
  case ishr =>
    dsimp only at hs
    split at hs
    · rename_i q
      subst q
      split at hs
      · rename_i y x stk
        obtain ⟨hy, hos⟩ := okA_cons.mp hos
        obtain ⟨hx1, hos⟩ := okA_cons.mp hos
        refine lv_ishr hx hb hd ?_
        rw [show Int32.ofInt x >>> (Int32.ofInt y &&& 31) = Int32.ofInt (iShr x y) from (i32_of (Int32.ofInt x >>> (Int32.ofInt y &&& 31))).symm]
        exact hs lsA H locs hL hn hol (okA_cons.mpr ⟨xI_in _ _ _, hos⟩) hWR
      · exact hs.elim
    · exact hs.elim
  case iushr =>
    dsimp only at hs
    split at hs
    · rename_i q
      subst q
      split at hs
      · rename_i y x stk
        obtain ⟨hy, hos⟩ := okA_cons.mp hos
        obtain ⟨hx1, hos⟩ := okA_cons.mp hos
        refine lv_iushr hx hb hd (v := Int32.ofInt (iUshr x y)) (i32_of _).symm ?_
        exact hs lsA H locs hL hn hol (okA_cons.mpr ⟨xI_in _ _ _, hos⟩) hWR
      · exact hs.elim
    · exact hs.elim
  case land =>
    dsimp only at hs
    split at hs
    · rename_i q
      subst q
      split at hs
      · rename_i y x stk
        obtain ⟨hy, hos⟩ := okA_cons.mp hos
        obtain ⟨hx1, hos⟩ := okA_cons.mp hos
        refine lv_land hx hb hd ?_
        rw [show Int64.ofInt x &&& Int64.ofInt y = Int64.ofInt (lAnd x y) from (xL_of _ x y).symm]
        exact hs lsA H locs hL hn hol (okA_cons.mpr ⟨xL_in _ _ _, hos⟩) hWR
      · exact hs.elim
    · exact hs.elim
  case lor =>
    dsimp only at hs
    split at hs
    · rename_i q
      subst q
      split at hs
      · rename_i y x stk
        obtain ⟨hy, hos⟩ := okA_cons.mp hos
        obtain ⟨hx1, hos⟩ := okA_cons.mp hos
        refine lv_lor hx hb hd ?_
        rw [show Int64.ofInt x ||| Int64.ofInt y = Int64.ofInt (lOr x y) from (xL_of _ x y).symm]
        exact hs lsA H locs hL hn hol (okA_cons.mpr ⟨xL_in _ _ _, hos⟩) hWR
      · exact hs.elim
    · exact hs.elim
  case lshl =>
    dsimp only at hs
    split at hs
    · rename_i q
      subst q
      split at hs
      · rename_i y x stk
        obtain ⟨hy, hos⟩ := okA_cons.mp hos
        obtain ⟨hx1, hos⟩ := okA_cons.mp hos
        refine lv_lshl hx hb hd (v := Int64.ofInt (lShl x y)) (i64_of _).symm ?_
        exact hs lsA H locs hL hn hol (okA_cons.mpr ⟨i64_in _, hos⟩) hWR
      · exact hs.elim
    · exact hs.elim
  case lushr =>
    dsimp only at hs
    split at hs
    · rename_i q
      subst q
      split at hs
      · rename_i y x stk
        obtain ⟨hy, hos⟩ := okA_cons.mp hos
        obtain ⟨hx1, hos⟩ := okA_cons.mp hos
        refine lv_lushr hx hb hd (v := Int64.ofInt (lUshr x y)) (i64_of _).symm ?_
        exact hs lsA H locs hL hn hol (okA_cons.mpr ⟨i64_in _, hos⟩) hWR
      · exact hs.elim
    · exact hs.elim
  case idiv =>
    dsimp only at hs
    split at hs
    · rename_i q
      subst q
      split at hs
      · rename_i y x stk
        obtain ⟨hy, hos⟩ := okA_cons.mp hos
        obtain ⟨hx1, hos⟩ := okA_cons.mp hos
        split at hs
        · exact hs.elim
        · rename_i h0
          refine lv_idiv hx hb hd (fun q => h0 ((i32_eq (y := 0) hy (by unfold inI; omega)).mp q)) ?_
          rw [i32_div hx1 hy]
          exact hs lsA H locs hL hn hol (okA_cons.mpr ⟨wI_in _, hos⟩) hWR
      · exact hs.elim
    · exact hs.elim
  case ldiv =>
    dsimp only at hs
    split at hs
    · rename_i q
      subst q
      split at hs
      · rename_i y x stk
        obtain ⟨hy, hos⟩ := okA_cons.mp hos
        obtain ⟨hx1, hos⟩ := okA_cons.mp hos
        split at hs
        · exact hs.elim
        · rename_i h0
          refine lv_ldiv hx hb hd (fun q => h0 ((i64_eq (y := 0) hy (by unfold inL; omega)).mp q)) ?_
          rw [i64_div hx1 hy]
          exact hs lsA H locs hL hn hol (okA_cons.mpr ⟨wL_in _, hos⟩) hWR
      · exact hs.elim
    · exact hs.elim
  case irem =>
    dsimp only at hs
    split at hs
    · rename_i q
      subst q
      split at hs
      · rename_i y x stk
        obtain ⟨hy, hos⟩ := okA_cons.mp hos
        obtain ⟨hx1, hos⟩ := okA_cons.mp hos
        split at hs
        · exact hs.elim
        · rename_i h0
          refine lv_irem hx hb hd (fun q => h0 ((i32_eq (y := 0) hy (by unfold inI; omega)).mp q)) ?_
          rw [i32_rem hx1 hy]
          exact hs lsA H locs hL hn hol (okA_cons.mpr ⟨tmod_in (by omega) (by omega) hx1, hos⟩) hWR
      · exact hs.elim
    · exact hs.elim
  case lrem =>
    dsimp only at hs
    split at hs
    · rename_i q
      subst q
      split at hs
      · rename_i y x stk
        obtain ⟨hy, hos⟩ := okA_cons.mp hos
        obtain ⟨hx1, hos⟩ := okA_cons.mp hos
        split at hs
        · exact hs.elim
        · rename_i h0
          refine lv_lrem hx hb hd (fun q => h0 ((i64_eq (y := 0) hy (by unfold inL; omega)).mp q)) ?_
          rw [i64_rem hx1 hy]
          exact hs lsA H locs hL hn hol (okA_cons.mpr ⟨tmod_in (by omega) (by omega) hx1, hos⟩) hWR
      · exact hs.elim
    · exact hs.elim
  case ineg =>
    dsimp only at hs
    split at hs
    · rename_i q
      subst q
      split at hs
      · rename_i x stk
        obtain ⟨hx1, hos⟩ := okA_cons.mp hos
        refine lv_ineg hx hb hd ?_
        rw [i32_neg]
        exact hs lsA H locs hL hn hol (okA_cons.mpr ⟨wI_in _, hos⟩) hWR
      · exact hs.elim
    · exact hs.elim
  case lneg =>
    dsimp only at hs
    split at hs
    · rename_i q
      subst q
      split at hs
      · rename_i x stk
        obtain ⟨hx1, hos⟩ := okA_cons.mp hos
        refine lv_lneg hx hb hd ?_
        rw [i64_neg]
        exact hs lsA H locs hL hn hol (okA_cons.mpr ⟨wL_in _, hos⟩) hWR
      · exact hs.elim
    · exact hs.elim
  case i2l =>
    dsimp only at hs
    split at hs
    · rename_i q
      subst q
      split at hs
      · rename_i x stk
        obtain ⟨hx1, hos⟩ := okA_cons.mp hos
        refine lv_i2l hx hb hd (i32_i64 hx1) ?_
        exact hs lsA H locs hL hn hol (okA_cons.mpr ⟨inI_inL hx1, hos⟩) hWR
      · exact hs.elim
    · exact hs.elim
  case l2i =>
    dsimp only at hs
    split at hs
    · rename_i q
      subst q
      split at hs
      · rename_i x stk
        obtain ⟨hx1, hos⟩ := okA_cons.mp hos
        refine lv_l2i hx hb hd (i64_i32 x) ?_
        exact hs lsA H locs hL hn hol (okA_cons.mpr ⟨wI_in _, hos⟩) hWR
      · exact hs.elim
    · exact hs.elim
  case i2b =>
    dsimp only at hs
    split at hs
    · rename_i q
      subst q
      split at hs
      · rename_i x stk
        obtain ⟨hx1, hos⟩ := okA_cons.mp hos
        refine lv_i2b hx hb hd (toB_of x).symm ?_
        exact hs lsA H locs hL hn hol (okA_cons.mpr ⟨i32_in _, hos⟩) hWR
      · exact hs.elim
    · exact hs.elim
  case i2c =>
    dsimp only at hs
    split at hs
    · rename_i q
      subst q
      split at hs
      · rename_i x stk
        obtain ⟨hx1, hos⟩ := okA_cons.mp hos
        refine lv_i2c hx hb hd (toC_of x).symm ?_
        exact hs lsA H locs hL hn hol (okA_cons.mpr ⟨i32_in _, hos⟩) hWR
      · exact hs.elim
    · exact hs.elim
  case dup =>
    dsimp only at hs
    split at hs
    · rename_i q
      subst q
      split at hs
      · rename_i v stk
        obtain ⟨hv, hos⟩ := okA_cons.mp hos
        split at hs
        · rename_i hc
          exact lv_dup hx hb hd (by rw [val_cat w hv hz]; exact hc) (hs lsA H locs hL hn hol (okA_cons.mpr ⟨hv, okA_cons.mpr ⟨hv, hos⟩⟩) hWR)
        · exact hs.elim
      · exact hs.elim
    · exact hs.elim
  case pop =>
    dsimp only at hs
    split at hs
    · rename_i q
      subst q
      split at hs
      · rename_i v stk
        obtain ⟨hv, hos⟩ := okA_cons.mp hos
        split at hs
        · rename_i hc
          exact lv_pop hx hb hd (by rw [val_cat w hv hz]; exact hc) (hs lsA H locs hL hn hol hos hWR)
        · exact hs.elim
      · exact hs.elim
    · exact hs.elim
  case dup2 =>
    dsimp only at hs
    split at hs
    · rename_i q
      subst q
      split at hs
      · rename_i v u stk
        obtain ⟨hv, hos⟩ := okA_cons.mp hos
        obtain ⟨hu, hos⟩ := okA_cons.mp hos
        split at hs
        · rename_i hc
          exact lv_dup2_11 hx hb hd (by rw [val_cat w hv hz]; exact hc.1) (by rw [val_cat w hu hz]; exact hc.2) (hs lsA H locs hL hn hol (okA_cons.mpr ⟨hv, okA_cons.mpr ⟨hu, okA_cons.mpr ⟨hv, okA_cons.mpr ⟨hu, hos⟩⟩⟩⟩) hWR)
        · exact hs.elim
      · exact hs.elim
    · exact hs.elim
  case goto d =>
    dsimp only at hs
    split at hs
    · rename_i q
      subst q
      split at hs
      · rename_i h0
        exact lv_goto (tgt := ((pc : Int) + d).toNat) hx hb hd (by omega) (hs lsA H locs hL hn hol hos hWR)
      · exact hs.elim
    · exact hs.elim
  case ifCond cd d =>
    dsimp only at hs
    split at hs
    · rename_i q
      subst q
      split at hs
      · rename_i x stk
        obtain ⟨hx1, hos⟩ := okA_cons.mp hos
        have hx1 : inI x := hx1
        have hy : inI 0 := by unfold inI; omega
        split at hs
        · rename_i h0
          cases cd
          case eq =>
            exact lv_if_eq (tgt := ((pc : Int) + d).toNat) hx hb hd (by omega) (fun q => by
              rw [if_pos (show tst .eq x 0 = true from decide_eq_true ((i32_eq hx1 hy).mp q))] at hs
              exact hs lsA H locs hL hn hol hos hWR) (fun q => by
              rw [if_neg (show ¬ tst .eq x 0 = true from fun z => q ((i32_eq hx1 hy).mpr (of_decide_eq_true z)))] at hs
              exact hs lsA H locs hL hn hol hos hWR)
          case ne =>
            exact lv_if_ne (tgt := ((pc : Int) + d).toNat) hx hb hd (by omega) (fun q => by
              rw [if_pos (show tst .ne x 0 = true from decide_eq_true (fun z => q ((i32_eq hx1 hy).mpr z)))] at hs
              exact hs lsA H locs hL hn hol hos hWR) (fun q => by
              rw [if_neg (show ¬ tst .ne x 0 = true from fun z => of_decide_eq_true z ((i32_eq hx1 hy).mp q))] at hs
              exact hs lsA H locs hL hn hol hos hWR)
          case lt =>
            exact lv_if_lt (tgt := ((pc : Int) + d).toNat) hx hb hd (by omega) (fun q => by
              rw [if_pos (show tst .lt x 0 = true from decide_eq_true ((i32_lt hx1 hy).mp q))] at hs
              exact hs lsA H locs hL hn hol hos hWR) (fun q => by
              rw [if_neg (show ¬ tst .lt x 0 = true from fun z => q ((i32_lt hx1 hy).mpr (of_decide_eq_true z)))] at hs
              exact hs lsA H locs hL hn hol hos hWR)
          case ge =>
            exact lv_if_ge (tgt := ((pc : Int) + d).toNat) hx hb hd (by omega) (fun q => by
              rw [if_pos (show tst .ge x 0 = true from decide_eq_true ((i32_le hy hx1).mp q))] at hs
              exact hs lsA H locs hL hn hol hos hWR) (fun q => by
              rw [if_neg (show ¬ tst .ge x 0 = true from fun z => q ((i32_le hy hx1).mpr (of_decide_eq_true z)))] at hs
              exact hs lsA H locs hL hn hol hos hWR)
          case gt =>
            exact lv_if_gt (tgt := ((pc : Int) + d).toNat) hx hb hd (by omega) (fun q => by
              rw [if_pos (show tst .gt x 0 = true from decide_eq_true ((i32_lt hy hx1).mp q))] at hs
              exact hs lsA H locs hL hn hol hos hWR) (fun q => by
              rw [if_neg (show ¬ tst .gt x 0 = true from fun z => q ((i32_lt hy hx1).mpr (of_decide_eq_true z)))] at hs
              exact hs lsA H locs hL hn hol hos hWR)
          case le =>
            exact lv_if_le (tgt := ((pc : Int) + d).toNat) hx hb hd (by omega) (fun q => by
              rw [if_pos (show tst .le x 0 = true from decide_eq_true ((i32_le hx1 hy).mp q))] at hs
              exact hs lsA H locs hL hn hol hos hWR) (fun q => by
              rw [if_neg (show ¬ tst .le x 0 = true from fun z => q ((i32_le hx1 hy).mpr (of_decide_eq_true z)))] at hs
              exact hs lsA H locs hL hn hol hos hWR)
        · exact hs.elim
      · exact hs.elim
    · exact hs.elim
  case if_icmp cd d =>
    dsimp only at hs
    split at hs
    · rename_i q
      subst q
      split at hs
      · rename_i y x stk
        obtain ⟨hy, hos⟩ := okA_cons.mp hos
        obtain ⟨hx1, hos⟩ := okA_cons.mp hos
        have hx1 : inI x := hx1
        have hy : inI y := hy
        split at hs
        · rename_i h0
          cases cd
          case eq =>
            exact lv_icmp_eq (tgt := ((pc : Int) + d).toNat) hx hb hd (by omega) (fun q => by
              rw [if_pos (show tst .eq x y = true from decide_eq_true ((i32_eq hx1 hy).mp q))] at hs
              exact hs lsA H locs hL hn hol hos hWR) (fun q => by
              rw [if_neg (show ¬ tst .eq x y = true from fun z => q ((i32_eq hx1 hy).mpr (of_decide_eq_true z)))] at hs
              exact hs lsA H locs hL hn hol hos hWR)
          case ne =>
            exact lv_icmp_ne (tgt := ((pc : Int) + d).toNat) hx hb hd (by omega) (fun q => by
              rw [if_pos (show tst .ne x y = true from decide_eq_true (fun z => q ((i32_eq hx1 hy).mpr z)))] at hs
              exact hs lsA H locs hL hn hol hos hWR) (fun q => by
              rw [if_neg (show ¬ tst .ne x y = true from fun z => of_decide_eq_true z ((i32_eq hx1 hy).mp q))] at hs
              exact hs lsA H locs hL hn hol hos hWR)
          case lt =>
            exact lv_icmp_lt (tgt := ((pc : Int) + d).toNat) hx hb hd (by omega) (fun q => by
              rw [if_pos (show tst .lt x y = true from decide_eq_true ((i32_lt hx1 hy).mp q))] at hs
              exact hs lsA H locs hL hn hol hos hWR) (fun q => by
              rw [if_neg (show ¬ tst .lt x y = true from fun z => q ((i32_lt hx1 hy).mpr (of_decide_eq_true z)))] at hs
              exact hs lsA H locs hL hn hol hos hWR)
          case ge =>
            exact lv_icmp_ge (tgt := ((pc : Int) + d).toNat) hx hb hd (by omega) (fun q => by
              rw [if_pos (show tst .ge x y = true from decide_eq_true ((i32_le hy hx1).mp q))] at hs
              exact hs lsA H locs hL hn hol hos hWR) (fun q => by
              rw [if_neg (show ¬ tst .ge x y = true from fun z => q ((i32_le hy hx1).mpr (of_decide_eq_true z)))] at hs
              exact hs lsA H locs hL hn hol hos hWR)
          case gt =>
            exact lv_icmp_gt (tgt := ((pc : Int) + d).toNat) hx hb hd (by omega) (fun q => by
              rw [if_pos (show tst .gt x y = true from decide_eq_true ((i32_lt hy hx1).mp q))] at hs
              exact hs lsA H locs hL hn hol hos hWR) (fun q => by
              rw [if_neg (show ¬ tst .gt x y = true from fun z => q ((i32_lt hy hx1).mpr (of_decide_eq_true z)))] at hs
              exact hs lsA H locs hL hn hol hos hWR)
          case le =>
            exact lv_icmp_le (tgt := ((pc : Int) + d).toNat) hx hb hd (by omega) (fun q => by
              rw [if_pos (show tst .le x y = true from decide_eq_true ((i32_le hx1 hy).mp q))] at hs
              exact hs lsA H locs hL hn hol hos hWR) (fun q => by
              rw [if_neg (show ¬ tst .le x y = true from fun z => q ((i32_le hx1 hy).mpr (of_decide_eq_true z)))] at hs
              exact hs lsA H locs hL hn hol hos hWR)
        · exact hs.elim
      · exact hs.elim
    · exact hs.elim
  case tableswitch d lo hi os =>
    dsimp only at hs
    split at hs
    · rename_i x stk
      obtain ⟨hx1, hos⟩ := okA_cons.mp hos
      have hx1 : inI x := hx1
      split at hs
      · rename_i hc
        split at hs
        · exact lv_tableOut (tgt := ((pc : Int) + d).toNat) hx hb hd (by rw [i32_id hx1]; exact hc) (by omega) (hs lsA H locs hL hn hol hos hWR)
        · exact hs.elim
      · rename_i hc
        split at hs
        · rename_i o ho
          split at hs
          · exact lv_tableIn (off := o) (tgt := ((pc : Int) + o).toNat) hx hb hd (by rw [i32_id hx1]; omega) (by rw [i32_id hx1]; omega) (by rw [i32_id hx1]; exact ho) (by omega) (hs lsA H locs hL hn hol hos hWR)
          · exact hs.elim
        · exact hs.elim
    · exact hs.elim
  case ldc i =>
    dsimp only at hs
    split at hs
    · rename_i q
      subst q
      split at hs
      · rename_i v hv
        have hm := cl_mem hv
        exact lv_ldc (v := Int32.ofInt v) hx hb hown (hts _ (ok_c _ (List.mem_map.mpr ⟨_, hm, rfl⟩))) hd (hs lsA H locs hL hn hol (okA_cons.mpr ⟨cl_in _ hm, hos⟩) hWR)
      · split at hs
        · rename_i a ha
          have hm := rl_mem ha
          obtain ⟨tx, htx⟩ := hRM.2.2.2.2.1 _ hm
          have hlt := rl_lt _ hm
          have h9 := hs lsA H locs hL hn hol (okA_cons.mpr ⟨trivial, hos⟩) hWR
          rw [List.map_cons, val_ref hlt] at h9
          exact va_ldcS hx hb hown htx hd h9
        · exact hs.elim
    · exact hs.elim
  case ldc_w i =>
    dsimp only at hs
    split at hs
    · rename_i q
      subst q
      split at hs
      · rename_i v hv
        have hm := cl_mem hv
        exact lv_ldcw (v := Int32.ofInt v) hx hb hown (hts _ (ok_c _ (List.mem_map.mpr ⟨_, hm, rfl⟩))) hd (hs lsA H locs hL hn hol (okA_cons.mpr ⟨cl_in _ hm, hos⟩) hWR)
      · split at hs
        · rename_i a ha
          have hm := rl_mem ha
          obtain ⟨tx, htx⟩ := hRM.2.2.2.2.1 _ hm
          have hlt := rl_lt _ hm
          have h9 := hs lsA H locs hL hn hol (okA_cons.mpr ⟨trivial, hos⟩) hWR
          rw [List.map_cons, val_ref hlt] at h9
          intro T hT X
          obtain ⟨t9, a9, b9⟩ := h9 T hT X
          exact ⟨t9, X.ldcStringW hx hown htx.1 htx.2 (g := F0 m pc lsA (st.map (val w))) rfl (by rw [hb]; exact hd) t9 a9, b9⟩
        · exact hs.elim
    · exact hs.elim
  case ldc2_w i =>
    dsimp only at hs
    split at hs
    · rename_i q
      subst q
      split at hs
      · rename_i v hv
        have hm := ll_mem hv
        exact lv_ldc2 (v := Int64.ofInt v) hx hb hown (hts _ (ok_l _ (List.mem_map.mpr ⟨_, hm, rfl⟩))) hd (hs lsA H locs hL hn hol (okA_cons.mpr ⟨ll_in _ hm, hos⟩) hWR)
      · exact hs.elim
    · exact hs.elim
  case getstatic i =>
    dsimp only at hs
    split at hs
    · rename_i q
      subst q
      split at hs
      · rename_i v hv
        obtain ⟨q, hq, e1, e2, e3⟩ := gl_mem hv
        have hZ := hRM.1 q hq
        have hW := hts _ (ok_g _ (List.mem_map.mpr ⟨_, hq, rfl⟩))
        rw [show gV w q.1 = .int (Int32.ofInt (v : Int)) by unfold gV; rw [e3]; rfl] at hZ
        rw [gW, e1, e2] at hW
        exact va_gets hx hb hZ hWR.2.2.1 hown hW (fun _ z => z) hd (hs lsA H locs hL hn hol (okA_cons.mpr ⟨gl_in q hq (by rw [e3]) v (by rw [e3]), hos⟩) hWR)
      · rename_i a hv
        obtain ⟨q, hq, e1, e2, e3⟩ := gl_mem hv
        have hZ := hRM.1 q hq
        have hW := hts _ (ok_g _ (List.mem_map.mpr ⟨_, hq, rfl⟩))
        rw [show gV w q.1 = val w (.inr (.inr (.inl a))) by unfold gV; rw [e3]; rfl] at hZ
        rw [gW, e1, e2] at hW
        exact va_gets hx hb hZ hWR.2.2.1 hown hW (fun _ z => z) hd (hs lsA H locs hL hn hol (okA_cons.mpr ⟨trivial, hos⟩) hWR)
      · exact hs.elim
    · exact hs.elim
  case getfield i =>
    dsimp only at hs
    split at hs
    · rename_i q
      subst q
      generalize hfl : fl (mO k) i = fo at hs
      split at hs
      · rename_i a stk c0 j
        obtain ⟨-, hos⟩ := okA_cons.mp hos
        split at hs
        · rename_i hk
          have hm := fl_mem hfl
          have hlk := hts _ (ok_f _ (List.mem_map.mpr ⟨_, hm, rfl⟩))
          subst hk
          rcases fL_ok _ hm with ⟨hc, hj, hj6⟩ | ⟨hc, hj⟩
          · have hc : (mk a).1 < 13 := hc
            have hj : j < nF (mk a).1 := hj
            obtain ⟨haM, haC⟩ := mk_mut (Or.inl hc)
            have hok := hWR.2.2.2.1 a j
            have key : ∀ v : MV, fvl w (h a) a (mk a).1 j = val w v → W p l e R s m args below meth c H locs cells slots Q (F0 m (pc + 3) lsA (val w v :: stk.map (val w))) → W p l e R s m args below meth c H locs cells slots Q (F0 m pc lsA (val w (.inr (.inr (.inl a))) :: stk.map (val w))) := by
              intro v hv hk
              rw [val_ref haC]
              have hlk2 : (Jvm.Cond.fieldLink (cnm (mO k)) i ((mcl.getD (mk a).1 dC0).2.1 j).1 ((mcl.getD (mk a).1 dC0).2.1 j).2.1 ((mcl.getD (mk a).1 dC0).2.1 j).2.2.1).before args s = true := by
                have e : fdf (mk a).1 j = (((mcl.getD (mk a).1 dC0).2.1 j).1, ((mcl.getD (mk a).1 dC0).2.1 j).2.1, ((mcl.getD (mk a).1 dC0).2.1 j).2.2.1) := by
                  unfold fdf
                  rw [if_neg (by omega)]
                  rfl
                have h9 := hlk
                unfold fW at h9
                dsimp only at h9
                rw [e] at h9
                exact h9
              refine va_get (T := (mcl.getD (mk a).1 dC0).2.1) (N := (mcl.getD (mk a).1 dC0).2.2) (C := (mcl.getD (mk a).1 dC0).1) hx hb hts (fun q hq => ok_u _ (mcl_in hc) q hq) hown hK hWR.1 a (by rw [wS_get haM, cE_obj hc]) (mcl_get hc) j hj hlk2 (fun _ z => z) (v := val w v) ?_ hd hk
              rw [List.getElem?_map, List.getElem?_range hj, ← hv]
              rfl
            split at hs
            · rename_i hf
              have hin : inI (h a j) := okS_i hok (by omega) (by omega) (by omega)
              exact key (.inl (h a j)) (by unfold fvl; rw [hf]; rfl) (hs lsA H locs hL hn hol (okA_cons.mpr ⟨hin, hos⟩) hWR)
            · rename_i hf
              have hin : inI (h a j) := okS_i hok (by omega) (by omega) (by omega)
              exact key (.inl (h a j)) (by unfold fvl; rw [hf]; rfl) (hs lsA H locs hL hn hol (okA_cons.mpr ⟨hin, hos⟩) hWR)
            · rename_i hf
              have hin : inL (h a j) := okS_l hok (Or.inr hf)
              exact key (.inr (.inl (h a j))) (by unfold fvl; rw [hf]; rfl) (hs lsA H locs hL hn hol (okA_cons.mpr ⟨hin, hos⟩) hWR)
            · rename_i hf
              exact key (.inr (.inr (.inl (mr a j)))) (by unfold fvl; rw [hf, val_ref (mr_lt a haC j hj6)]; rfl) (hs lsA H locs hL hn hol (okA_cons.mpr ⟨trivial, hos⟩) hWR)
            · rename_i hf
              have hin := okS_r hok (by omega) hf
              exact key (.inr (.inr (.inl (h a j).toNat))) (by unfold fvl; rw [hf, val_ref (mk_lt (by rw [hin.2]; decide))]; rfl) (hs lsA H locs hL hn hol (okA_cons.mpr ⟨trivial, hos⟩) hWR)
            · rename_i hf
              have := ft_not4 hc hj
              omega
            · exact hs.elim
          · have hc : (mk a).1 = 13 := hc
            have haC : a < nC := mk_lt (by omega)
            obtain ⟨-, h1, h2⟩ := hRM.2.2.2.1 a haC hc
            rw [hc] at hs
            rw [List.map_cons, val_ref haC]
            rcases hj with hj | hj
            · have hj : j = 0 := hj
              subst hj
              rw [ft_str.1] at hs
              have h9 := hs lsA H locs hL hn hol (okA_cons.mpr ⟨trivial, hos⟩) hWR
              rw [List.map_cons, val_ref (mr_lt a haC 0 (by omega))] at h9
              refine vk_getf (ref := "java/lang/String") hx hb h1 hWR.2.2.1 hown ?_ (fun _ z => z) hd h9
              have h8 := hlk
              unfold fW at h8
              dsimp only at h8
              rw [hc] at h8
              exact h8
            · have hj : j = 1 := hj
              subst hj
              rw [ft_str.2] at hs
              have h9 := hs lsA H locs hL hn hol (okA_cons.mpr ⟨(by show inI 0; unfold inI; omega), hos⟩) hWR
              refine vk_getf (ref := "java/lang/String") hx hb h2 hWR.2.2.1 hown ?_ (fun _ z => z) hd h9
              have h8 := hlk
              unfold fW at h8
              dsimp only at h8
              rw [hc] at h8
              exact h8
        · exact hs.elim
      · exact hs.elim
    · exact hs.elim
  case putfield i =>
    dsimp only at hs
    split at hs
    · rename_i q
      subst q
      generalize hfl : fl (mO k) i = fo at hs
      have key : ∀ (x : Int) (v : MV) (a j : Nat) (stk : List MV), fl (mO k) i = some ((mk a).1, j) → (mk a).1 < 13 → j < nF (mk a).1 → ((mcl.getD (mk a).1 dC0).2.1 j).2.2.2 = false → narrow ((mty.getD (mk a).1 (fun _ => .int)) j) (val w v) = val w v → fits ((mty.getD (mk a).1 (fun _ => .int)) j) (val w v) = true → val w v = fvl w (fun y => if y = j then x else h a y) a (mk a).1 j → okS a j x → okA stk →
          Wt p l e R s m args below meth c cells slots Q w A k (pc + 3) ls stk (up h a j x) → W p l e R s m args below meth c H locs cells slots Q (F0 m pc lsA (val w v :: val w (.inr (.inr (.inl a))) :: stk.map (val w))) := by
        intro x v a j stk hfl hc hj hfin hnar hfit hv hox hos hs
        have hm := fl_mem hfl
        have hlk := hts _ (ok_f _ (List.mem_map.mpr ⟨_, hm, rfl⟩))
        obtain ⟨haM, haC⟩ := mk_mut (Or.inl hc)
        have hlk2 : (Jvm.Cond.fieldLink (cnm (mO k)) i ((mcl.getD (mk a).1 dC0).2.1 j).1 ((mcl.getD (mk a).1 dC0).2.1 j).2.1 ((mcl.getD (mk a).1 dC0).2.1 j).2.2.1).before args s = true := by
          have e : fdf (mk a).1 j = (((mcl.getD (mk a).1 dC0).2.1 j).1, ((mcl.getD (mk a).1 dC0).2.1 j).2.1, ((mcl.getD (mk a).1 dC0).2.1 j).2.2.1) := by
            unfold fdf
            rw [if_neg (by omega)]
            rfl
          have h9 := hlk
          unfold fW at h9
          dsimp only at h9
          rw [e] at h9
          exact h9
        rw [val_ref haC]
        obtain ⟨f1, f2⟩ := fd_ok hc rfl
        exact va_put (T := (mcl.getD (mk a).1 dC0).2.1) (N := (mcl.getD (mk a).1 dC0).2.2) (C := (mcl.getD (mk a).1 dC0).1) hx hb hts (fun q hq => ok_u _ (mcl_in hc) q hq) ((mty.getD (mk a).1 (fun _ => .int))) f1 f2 hown hK hWR.1 hWR.2.1 hWR.2.2.1 a (by rw [wS_get haM, cE_obj hc]) (mcl_get hc) j hj hlk2 (fun _ z => z) hfin (f1 j hj) hnar hfit (by simpa using hj) hd
          (fun H1 locs1 hP hD hS => hs lsA H1 locs1 hL hn hol hos (WR_up hWR haM (obj_set hc hj hv) hox hP hD hS))
      have chk : ∀ (a j : Nat), fl (mO k) i = some ((mk a).1, j) → ft (mk a).1 j ≠ 2 → ft (mk a).1 j ≠ 4 → (mk a).1 < 13 ∧ j < nF (mk a).1 ∧ chkP (mk a).1 j = true := by
        intro a j hfl h2 h4
        rcases fL_ok _ (fl_mem hfl) with ⟨hc, hj, -⟩ | ⟨hc, hj⟩
        · exact ⟨hc, hj, ok_p _ hc _ hj⟩
        · have hc : (mk a).1 = 13 := hc
          rw [hc] at h2 h4
          rcases hj with hj | hj
          · have hj : j = 0 := hj
            subst hj; exact absurd ft_str.1 h2
          · have hj : j = 1 := hj
            subst hj; exact absurd ft_str.2 h4
      have okW : ∀ (a j : Nat) (x : Int), (mk a).1 < 13 → (ft (mk a).1 j = 0 ∨ ft (mk a).1 j = 5) → inI x → okS a j x := by
        intro a j x hc hf hx
        unfold okS
        split
        · omega
        · split
          · omega
          · omega
          · exact hx
      split at hs
      · rename_i x a stk c0 j
        obtain ⟨hv, hos⟩ := okA_cons.mp hos
        obtain ⟨-, hos⟩ := okA_cons.mp hos
        split at hs
        · rename_i hk
          subst hk
          split at hs
          · rename_i hf
            obtain ⟨hc, hj, hp⟩ := chk a j hfl (by omega) (by omega)
            unfold chkP at hp
            rw [hf] at hp
            simp only [Bool.and_eq_true, decide_eq_true_eq, Bool.not_eq_true'] at hp
            exact key x (.inl x) a j stk hfl hc hj hp.2 (by rw [hp.1]; rfl) (by rw [hp.1]; rfl) (by unfold fvl; rw [hf]; simp [val]) (okW a j x hc (Or.inl hf) hv) hos hs
          · rename_i hf
            split at hs
            · rename_i h01
              obtain ⟨hc, hj, hp⟩ := chk a j hfl (by omega) (by omega)
              unfold chkP at hp
              rw [hf] at hp
              simp only [Bool.and_eq_true, decide_eq_true_eq, Bool.not_eq_true'] at hp
              have h01 : x = 0 ∨ x = 1 := by simpa [is01] using h01
              exact key x (.inl x) a j stk hfl hc hj hp.2 (by rw [hp.1]; rcases h01 with q | q <;> (subst q; rfl)) (by rw [hp.1]; rcases h01 with q | q <;> (subst q; rfl)) (by unfold fvl; rw [hf]; simp [val]) (okW a j x hc (Or.inr hf) hv) hos hs
            · exact hs.elim
          · exact hs.elim
        · exact hs.elim
      · rename_i x a stk c0 j
        obtain ⟨hv, hos⟩ := okA_cons.mp hos
        obtain ⟨-, hos⟩ := okA_cons.mp hos
        split at hs
        · rename_i hk
          obtain ⟨hk, hf⟩ := hk
          subst hk
          obtain ⟨hc, hj, hp⟩ := chk a j hfl (by omega) (by omega)
          unfold chkP at hp
          rw [hf] at hp
          simp only [Bool.and_eq_true, decide_eq_true_eq, Bool.not_eq_true'] at hp
          refine key x (.inr (.inl x)) a j stk hfl hc hj hp.2 (by rw [hp.1]; rfl) (by rw [hp.1]; rfl) (by unfold fvl; rw [hf]; simp [val]) ?_ hos hs
          unfold okS
          split
          · exact hv
          · split
            · exact hv
            · omega
            · exact absurd hf ‹_›
        · exact hs.elim
      · rename_i b a stk c0 j
        obtain ⟨hv, hos⟩ := okA_cons.mp hos
        obtain ⟨-, hos⟩ := okA_cons.mp hos
        split at hs
        · rename_i hk
          obtain ⟨hk, hf, hb1⟩ := hk
          subst hk
          obtain ⟨hc, hj, hp⟩ := chk a j hfl (by omega) (by omega)
          unfold chkP at hp
          rw [hf] at hp
          simp only [Bool.and_eq_true, decide_eq_true_eq, Bool.not_eq_true'] at hp
          have hbC : b < nC := mk_lt (by omega)
          refine key (b : Int) (.inr (.inr (.inl b))) a j stk hfl hc hj hp.2 (by rw [hp.1, val_ref hbC]; rfl) (by rw [hp.1, val_ref hbC]; rfl) (by unfold fvl; rw [hf]; simp [val, hbC]) ?_ hos hs
          unfold okS
          split
          · omega
          · split
            · omega
            · exact ⟨by omega, by simpa using hb1⟩
            · exact absurd hf ‹_›
        · exact hs.elim
      · exact hs.elim
    · exact hs.elim
  case arraylength =>
    dsimp only at hs
    split at hs
    · rename_i q
      subst q
      split at hs
      · rename_i a stk
        obtain ⟨-, hos⟩ := okA_cons.mp hos
        split at hs
        · rename_i hk
          obtain ⟨haM, haC⟩ := mk_mut (a := a) (by omega)
          have h2 := (kinds a haC).2
          rw [List.map_cons, val_ref haC]
          exact va_alen hx hb hK hWR.1 a 0 (by rw [wS_get haM, cE_100 hk]) rfl (v := Int32.ofInt ((mk a).2 : Int)) rfl hd (hs lsA H locs hL hn hol (okA_cons.mpr ⟨(by show inI _; unfold inI; omega), hos⟩) hWR)
        · rename_i hk
          obtain ⟨haM, haC⟩ := mk_mut (a := a) (by omega)
          have h2 := (kinds a haC).2
          rw [List.map_cons, val_ref haC]
          exact va_alen hx hb hK hWR.1 a 1 (by rw [wS_get haM, cE_101 hk]) rfl (v := Int32.ofInt ((mk a).2 : Int)) rfl hd (hs lsA H locs hL hn hol (okA_cons.mpr ⟨(by show inI _; unfold inI; omega), hos⟩) hWR)
        · rename_i hk
          have haC : a < nC := mk_lt (by omega)
          have h2 := (kinds a haC).2
          rw [List.map_cons, val_ref haC]
          exact va_tlen hx hb (hRM.2.2.1 a haC hk) hWR.2.2.1 (v := Int32.ofInt ((mk a).2 : Int)) rfl hd (hs lsA H locs hL hn hol (okA_cons.mpr ⟨(by show inI _; unfold inI; omega), hos⟩) hWR)
        · rename_i hk
          have haC : a < nC := mk_lt (by omega)
          have ea := scr_only a haC hk
          obtain ⟨x1, x2, x3⟩ := hRM.2.2.2.2.2
          rw [List.map_cons, val_ref haC, ea]
          have h9 := hs lsA H locs hL hn hol (okA_cons.mpr ⟨(by show inI _; have := scr_len hWR; unfold inI; omega), hos⟩) hWR
          refine va_slen hx hb x1 x2 x3 hWR.2.2.1 hd ?_
          rw [← hWR.2.2.2.2.2]
          exact h9
        · exact hs.elim
      · exact hs.elim
    · exact hs.elim
  case iaload =>
    dsimp only at hs
    split at hs
    · rename_i q
      subst q
      split at hs
      · rename_i i a stk
        obtain ⟨hi, hos⟩ := okA_cons.mp hos
        have hi : inI i := hi
        obtain ⟨-, hos⟩ := okA_cons.mp hos
        split at hs
        · rename_i hk
          split at hs
          · rename_i hib
            obtain ⟨haM, haC⟩ := mk_mut (a := a) (by omega)
            have hok : inI (h a i.toNat) := okS_i (hWR.2.2.2.1 a i.toNat) (by omega) (by rw [hk, ft_arr (by omega)]; omega) (by rw [hk, ft_arr (by omega)]; omega)
            rw [List.map_cons, List.map_cons, val_ref haC]
            refine va_iald hx hb hK hWR.1 a 0 (by rw [wS_get haM, cE_100 hk]) rfl (inb_in hi hib) hd ?_
            rw [clamp_nat hi]
            exact hs lsA H locs hL hn hol (okA_cons.mpr ⟨hok, hos⟩) hWR
          · exact hs.elim
        · rename_i hk
          split at hs
          · rename_i hib
            have haC : a < nC := mk_lt (by omega)
            rw [List.map_cons, List.map_cons, val_ref haC]
            refine va_ti hx hb (hRM.2.1 a haC hk) hWR.2.2.1 (inb_in hi hib) (v := val w (.inl (ro a i.toNat))) (by rw [clamp_nat hi]; rfl) hd ?_
            exact hs lsA H locs hL hn hol (okA_cons.mpr ⟨ro_in a i.toNat, hos⟩) hWR
          · exact hs.elim
        · rename_i hk
          split at hs
          · rename_i hib
            have haC : a < nC := mk_lt (by omega)
            have ea := scr_only a haC hk
            rw [ea] at hk hs
            obtain ⟨x1, x2, x3⟩ := hRM.2.2.2.2.2
            have hok : inI (h scC i.toNat) := okS_i (hWR.2.2.2.1 scC i.toNat) (by omega) (by rw [hk, ft_arr (by omega)]; omega) (by rw [hk, ft_arr (by omega)]; omega)
            rw [List.map_cons, List.map_cons, val_ref haC, ea]
            have h9 := hs lsA H locs hL hn hol (okA_cons.mpr ⟨hok, hos⟩) hWR
            refine va_sld hx hb x1 x2 x3 hWR.2.2.1 (by rw [← hWR.2.2.2.2.2]; exact inb_in hi hib) hd ?_
            rw [clamp_nat hi, ← hWR.2.2.2.2.1]
            exact h9
          · exact hs.elim
        · exact hs.elim
      · exact hs.elim
    · exact hs.elim
  case baload =>
    dsimp only at hs
    split at hs
    · rename_i q
      subst q
      split at hs
      · rename_i i a stk
        obtain ⟨hi, hos⟩ := okA_cons.mp hos
        have hi : inI i := hi
        obtain ⟨-, hos⟩ := okA_cons.mp hos
        split at hs
        · rename_i hk
          split at hs
          · rename_i hib
            obtain ⟨haM, haC⟩ := mk_mut (a := a) (by omega)
            have hok : inI (h a i.toNat) := okS_i (hWR.2.2.2.1 a i.toNat) (by omega) (by rw [hk, ft_arr (by omega)]; omega) (by rw [hk, ft_arr (by omega)]; omega)
            rw [List.map_cons, List.map_cons, val_ref haC]
            refine va_bald hx hb hK hWR.1 a 1 (by rw [wS_get haM, cE_101 hk]) rfl (inb_in hi hib) hd ?_
            rw [clamp_nat hi]
            exact hs lsA H locs hL hn hol (okA_cons.mpr ⟨hok, hos⟩) hWR
          · exact hs.elim
        · rename_i hk
          split at hs
          · rename_i hib
            obtain ⟨haM, haC⟩ := mk_mut (a := a) (by omega)
            have hok : inI (h a i.toNat) := okS_i (hWR.2.2.2.1 a i.toNat) (by omega) (by rw [hk, ft_arr (by omega)]; omega) (by rw [hk, ft_arr (by omega)]; omega)
            rw [List.map_cons, List.map_cons, val_ref haC]
            refine va_zald hx hb hK hWR.1 a 2 (by rw [wS_get haM, cE_102 hk]) rfl (inb_in hi hib) hd ?_
            rw [clamp_nat hi]
            exact hs lsA H locs hL hn hol (okA_cons.mpr ⟨hok, hos⟩) hWR
          · exact hs.elim
        · rename_i hk
          split at hs
          · rename_i hib
            have haC : a < nC := mk_lt (by omega)
            rw [List.map_cons, List.map_cons, val_ref haC]
            refine va_tb hx hb (hRM.2.2.1 a haC hk) hWR.2.2.1 (inb_in hi hib) (v := val w (.inl (ro a i.toNat))) (by rw [clamp_nat hi]; rfl) hd ?_
            exact hs lsA H locs hL hn hol (okA_cons.mpr ⟨ro_in a i.toNat, hos⟩) hWR
          · exact hs.elim
        · exact hs.elim
      · exact hs.elim
    · exact hs.elim
  case laload =>
    dsimp only at hs
    split at hs
    · rename_i q
      subst q
      split at hs
      · rename_i i a stk
        obtain ⟨hi, hos⟩ := okA_cons.mp hos
        have hi : inI i := hi
        obtain ⟨-, hos⟩ := okA_cons.mp hos
        split at hs
        · rename_i hk
          obtain ⟨hk, hib⟩ := hk
          obtain ⟨haM, haC⟩ := mk_mut (a := a) (by omega)
          have hok : inL (h a i.toNat) := okS_l (hWR.2.2.2.1 a i.toNat) (Or.inl hk)
          rw [List.map_cons, List.map_cons, val_ref haC]
          refine va_lald hx hb hK hWR.1 a 3 (by rw [wS_get haM, cE_103 hk]) rfl (inb_in hi hib) hd ?_
          rw [clamp_nat hi]
          exact hs lsA H locs hL hn hol (okA_cons.mpr ⟨hok, hos⟩) hWR
        · exact hs.elim
      · exact hs.elim
    · exact hs.elim
  case aaload =>
    dsimp only at hs
    split at hs
    · rename_i q
      subst q
      split at hs
      · rename_i i a stk
        obtain ⟨hi, hos⟩ := okA_cons.mp hos
        have hi : inI i := hi
        obtain ⟨-, hos⟩ := okA_cons.mp hos
        split at hs
        · rename_i hk
          obtain ⟨hk, hib⟩ := hk
          obtain ⟨haM, haC⟩ := mk_mut (a := a) (by omega)
          have hin := inb_in hi hib
          have hlt : i.toNat < (mk a).2 := by have h1 : 0 ≤ i ∧ i < (mk a).2 := by simpa [inb] using hib
                                              omega
          have hlt2 : (Int32.ofInt i).toNatClampNeg < (mk a).2 := by rw [clamp_nat hi]; exact hlt
          have hrow := mr_rows a haC hk i.toNat hlt
          have h9 := hs lsA H locs hL hn hol (okA_cons.mpr ⟨trivial, hos⟩) hWR
          rw [List.map_cons, val_ref (Nat.lt_of_lt_of_le hrow nM_nC)] at h9
          rw [List.map_cons, List.map_cons, val_ref haC]
          have hcell := hWR.1 a _ (wS_get haM)
          rw [cE_104 hk] at hcell
          exact W.aald (v := .ref (w.1 (mr a 0 + i.toNat))) (ty := .array .int) hx hb hcell ((hK.2 4 _ rfl).1 (mk a).2 (fun j => va_rf (if j < (mk a).2 then some (w.1 (mr a 0 + j)) else none))) rfl (fun q => by cases q) (by show ¬ (_ ∨ (arrV _ _ _).slots.size ≤ _); rw [arrV_size]; exact hin) (by show (arrV _ _ _).slots[_]? = _; rw [arrV_read _ _ hlt2, clamp_nat hi]; show some (va_rf (if i.toNat < (mk a).2 then some (w.1 (mr a 0 + i.toNat)) else none)) = _; rw [if_pos hlt]; rfl) rfl rfl hd h9
        · exact hs.elim
      · exact hs.elim
    · exact hs.elim
  case iastore =>
    dsimp only at hs
    split at hs
    · rename_i q
      subst q
      split at hs
      · rename_i v i a stk
        obtain ⟨hv, hos⟩ := okA_cons.mp hos
        obtain ⟨hi, hos⟩ := okA_cons.mp hos
        have hi : inI i := hi
        obtain ⟨-, hos⟩ := okA_cons.mp hos
        split at hs
        · rename_i hk
          obtain ⟨hk, hib⟩ := hk
          obtain ⟨haM, haC⟩ := mk_mut (a := a) (by omega)
          rw [List.map_cons, List.map_cons, List.map_cons, val_ref haC]
          refine va_iast hx hb hK hWR.1 hWR.2.1 hWR.2.2.1 a 0 (by rw [wS_get haM, cE_100 hk]) rfl (inb_in hi hib) hd (fun H1 locs1 hP hD hS => hs lsA H1 locs1 hL hn hol hos (WR_up hWR haM ?_ ?_ hP hD hS))
          · rw [cE_100 hk, clamp_nat hi]
            congr 4
            funext y
            unfold upd
            by_cases q : y = i.toNat
            · rw [if_pos q, if_pos q]
            · rw [if_neg q, if_neg q]
          · unfold okS
            rw [hk]
            show (match ft 100 i.toNat with
              | 1 => inL v
              | 3 => 0 ≤ v ∧ (mk (v).toNat).1 = 101
              | _ => inI v)
            rw [ft_arr (by omega)]
            exact hv
        · exact hs.elim
      · exact hs.elim
    · exact hs.elim
  case bastore =>
    dsimp only at hs
    split at hs
    · rename_i q
      subst q
      split at hs
      · rename_i v i a stk
        obtain ⟨hv, hos⟩ := okA_cons.mp hos
        obtain ⟨hi, hos⟩ := okA_cons.mp hos
        have hi : inI i := hi
        obtain ⟨-, hos⟩ := okA_cons.mp hos
        split at hs
        · rename_i hk
          split at hs
          · rename_i hib
            obtain ⟨haM, haC⟩ := mk_mut (a := a) (by omega)
            rw [List.map_cons, List.map_cons, List.map_cons, val_ref haC]
            refine va_bast hx hb hK hWR.1 hWR.2.1 hWR.2.2.1 a 1 (by rw [wS_get haM, cE_101 hk]) rfl (inb_in hi hib) hd (fun H1 locs1 hP hD hS => hs lsA H1 locs1 hL hn hol hos (WR_up hWR haM ?_ ?_ hP hD hS))
            · rw [cE_101 hk, clamp_nat hi]
              congr 4
              funext y
              unfold upd
              by_cases q : y = i.toNat
              · rw [if_pos q, if_pos q, toB_of]
                rfl
              · rw [if_neg q, if_neg q]
            · unfold okS
              rw [hk]
              show (match ft 101 i.toNat with
                | 1 => inL (toB v)
                | 3 => 0 ≤ (toB v) ∧ (mk ((toB v)).toNat).1 = 101
                | _ => inI (toB v))
              rw [ft_arr (by omega)]
              exact i32_in _
          · exact hs.elim
        · rename_i hk
          split at hs
          · rename_i hib
            obtain ⟨hib, h01⟩ := hib
            have h01 : v = 0 ∨ v = 1 := by simpa [is01] using h01
            obtain ⟨haM, haC⟩ := mk_mut (a := a) (by omega)
            rw [List.map_cons, List.map_cons, List.map_cons, val_ref haC]
            refine va_zast hx hb hK hWR.1 hWR.2.1 hWR.2.2.1 a 2 (by rw [wS_get haM, cE_102 hk]) rfl (inb_in hi hib) hd (fun H1 locs1 hP hD hS => hs lsA H1 locs1 hL hn hol hos (WR_up hWR haM ?_ ?_ hP hD hS))
            · rw [cE_102 hk, clamp_nat hi]
              congr 4
              funext y
              unfold upd
              by_cases q : y = i.toNat
              · rw [if_pos q, if_pos q]
                rcases h01 with z | z <;> (subst z; rfl)
              · rw [if_neg q, if_neg q]
            · unfold okS
              rw [hk]
              show (match ft 102 i.toNat with
                | 1 => inL v
                | 3 => 0 ≤ v ∧ (mk (v).toNat).1 = 101
                | _ => inI v)
              rw [ft_arr (by omega)]
              exact hv
          · exact hs.elim
        · exact hs.elim
      · exact hs.elim
    · exact hs.elim
  case lastore =>
    dsimp only at hs
    split at hs
    · rename_i q
      subst q
      split at hs
      · rename_i v i a stk
        obtain ⟨hv, hos⟩ := okA_cons.mp hos
        obtain ⟨hi, hos⟩ := okA_cons.mp hos
        have hi : inI i := hi
        obtain ⟨-, hos⟩ := okA_cons.mp hos
        split at hs
        · rename_i hk
          obtain ⟨hk, hib⟩ := hk
          obtain ⟨haM, haC⟩ := mk_mut (a := a) (by omega)
          rw [List.map_cons, List.map_cons, List.map_cons, val_ref haC]
          refine va_last hx hb hK hWR.1 hWR.2.1 hWR.2.2.1 a 3 (by rw [wS_get haM, cE_103 hk]) rfl (inb_in hi hib) hd (fun H1 locs1 hP hD hS => hs lsA H1 locs1 hL hn hol hos (WR_up hWR haM ?_ ?_ hP hD hS))
          · rw [cE_103 hk, clamp_nat hi]
            congr 5
            funext y
            unfold vp_updL
            by_cases q : y = i.toNat
            · rw [if_pos q, if_pos q]
            · rw [if_neg q, if_neg q]
          · unfold okS
            rw [hk]
            exact hv
        · exact hs.elim
      · exact hs.elim
    · exact hs.elim
  case invokestatic i =>
    dsimp only at hs
    split at hs
    · rename_i q
      subst q
      split at hs
      · rename_i k2 n hsl
        split at hs
        · rename_i hc
          obtain ⟨hc1, hc2, hc3⟩ := hc
          obtain ⟨v, h2, hCal, hW2⟩ := hs
          have hm := sl_mem hsl
          have hck := ok_cs _ hm
          unfold chkS at hck
          simp only [Bool.and_eq_true, decide_eq_true_eq] at hck
          obtain ⟨⟨hk2, hst⟩, hpar⟩ := hck
          obtain ⟨rm, hM, hrc, hrs, hfr, hlo⟩ := hCal hk2 (fun x hx => hos x (List.mem_of_mem_take (List.mem_reverse.mp hx))) hc3 hWR.2.2.2
          have hmo := m_ok hk2
          have hos1 : okA (st.drop n) := fun x hx => hos x (List.mem_of_mem_drop hx)
          have hcw := callB_of (R := R) (own := cnm (mO k)) (index := i) (mc := 0) (ms := 0) n hts (good_M hk2) (show wsM k2 = Jvm.Cond.code (mY k2) (mC k2) (mL k2) (mR k2) :: gT from rfl) hrc hrs (ini_M hk2 hts) (hts _ (ok_s _ (List.mem_map.mpr ⟨_, hm, rfl⟩))) ⟨hmo.2.2.1.1, hmo.2.2.1.2, hpar⟩ ⟨hfr, by have := hmo.2.2.2.2; omega⟩
          have hr := va_runS (As := (st.take n).reverse.map (val w)) (rest := (st.drop n).map (val w)) (g := F0 m pc lsA (st.map (val w))) (cells := cells) (slots := slots) (locs := locs) (below := below) (meth := meth) (e := e) ⟨hx, hb, hml, hown, hts⟩ hM ⟨hcw, hts _ (ok_t _ (List.mem_map.mpr ⟨_, hst, rfl⟩))⟩ ⟨PcM_blind w A _ h, fun U hU hWm => pre_M hWR hK hRM U hU hWm⟩ rfl (by simp; omega) hL.1 (by
            show st.map (val w) = _
            rw [← List.map_reverse, List.reverse_reverse, ← List.map_append, List.take_append_drop]) (lv_room (by rw [cats_val w hos1 hz]; exact hc2)) hd ⟨hroom.2.2.1, hroom.2.2.2⟩
          exact cal_go hWR hr (fun H1 locs1 hW1 hov => hW2 lsA H1 locs1 hL hn hol (by
            intro x hx
            rcases List.mem_append.mp hx with q | q
            · exact hov x (by cases v with
                | none => cases q
                | some y => rw [List.mem_singleton.mp q])
            · exact hos1 x q) hW1)
        · exact hs.elim
      · split at hs
        · rename_i hal
          split at hs
          · rename_i n dp d sp sr stk
            obtain ⟨i3, hos⟩ := okA_cons.mp hos
            obtain ⟨i2, hos⟩ := okA_cons.mp hos
            obtain ⟨-, hos⟩ := okA_cons.mp hos
            obtain ⟨i1, hos⟩ := okA_cons.mp hos
            obtain ⟨-, hos⟩ := okA_cons.mp hos
            split at hs
            · rename_i hc
              obtain ⟨g1, g2, g3, g4, g5, g6, g7⟩ := hc
              obtain ⟨hdM, hdC⟩ := mk_mut (a := d) (by omega)
              split at hs
              · rename_i hk
                obtain ⟨hsM, hsC⟩ := mk_mut (a := sr) (by omega)
                have hcell := hWR.1 sr _ (wS_get hsM)
                rw [cE_100 hk] at hcell
                rw [List.map_cons, List.map_cons, List.map_cons, List.map_cons, List.map_cons, val_ref hdC, val_ref hsC]
                exact cp_row (n0 := (mk sr).2) (f := h sr) hx hb (hml.trans hL.1.symm) hown hts hal hK hWR hz ⟨hroom.1, hroom.2.1⟩ hcell ((hK.2 0 _ rfl).1 (mk sr).2 (fun j => .int (Int32.ofInt (h sr j)))) (fun q => by cases q) (by show _ ≤ (arrV _ _ _).slots.size; rw [arrV_size]; exact Nat.le_refl _) (fun j hj => by show (arrV _ _ _).slots[_]? = _; rw [arrV_read _ _ hj]) (fun j => okS_i (hWR.2.2.2.1 sr j) (by omega) (by rw [hk, ft_arr (by omega)]; omega) (by rw [hk, ft_arr (by omega)]; omega)) g4 g3 g2 g1 ⟨i1, i2, i3⟩ g6 g5 hos g7 hd (fun H1 locs1 hW1 => hs lsA H1 locs1 hL hn hol hos hW1)
              · rename_i hk
                have hsC : sr < nC := mk_lt (by omega)
                obtain ⟨cs, t1, t2, t3, t4, -, t6, t7⟩ := (hRM.2.1 sr hsC hk).kept hWR.2.2.1.2.1
                rw [List.map_cons, List.map_cons, List.map_cons, List.map_cons, List.map_cons, val_ref hdC, val_ref hsC]
                exact cp_row (n0 := (mk sr).2) (f := ro sr) hx hb (hml.trans hL.1.symm) hown hts hal hK hWR hz ⟨hroom.1, hroom.2.1⟩ t1 t2 t3 t4 t6 (ro_in sr) g4 g3 g2 g1 ⟨i1, i2, i3⟩ g6 g5 hos g7 hd (fun H1 locs1 hW1 => hs lsA H1 locs1 hL hn hol hos hW1)
              · exact hs.elim
            · exact hs.elim
          · exact hs.elim
        · generalize hml0 : ml (mO k) i = mo at hs
          split at hs
          · rename_i y x stk
            obtain ⟨hy, hos⟩ := okA_cons.mp hos
            obtain ⟨hx1, hos⟩ := okA_cons.mp hos
            split at hs
            · rename_i hcat
              have hlk := hts _ (ok_h _ (List.mem_map.mpr ⟨_, ml_mem hml0, rfl⟩))
              refine va_mmax hx hb (hml.trans hL.1.symm) hown hlk (hts _ (gT_of (ok_hs 0 (by simp)) rfl)) (hts _ ok_math) (hts _ (gT_of ok_h0 rfl)) hroom.1 (by rw [cats_val w hos hz]; omega) hroom.2.2.1 hroom.2.2.2 hd ?_
              rw [mx32 hx1 hy]
              exact hs lsA H locs hL hn hol (okA_cons.mpr ⟨mxI hx1 hy, hos⟩) hWR
            · exact hs.elim
          · rename_i y x stk
            obtain ⟨hy, hos⟩ := okA_cons.mp hos
            obtain ⟨hx1, hos⟩ := okA_cons.mp hos
            split at hs
            · rename_i hcat
              have hlk := hts _ (ok_h _ (List.mem_map.mpr ⟨_, ml_mem hml0, rfl⟩))
              refine va_mmin hx hb (hml.trans hL.1.symm) hown hlk (hts _ (gT_of (ok_hs 1 (by simp)) rfl)) (hts _ ok_math) (hts _ (gT_of ok_h1 rfl)) hroom.1 (by rw [cats_val w hos hz]; omega) hroom.2.2.1 hroom.2.2.2 hd ?_
              rw [mn32 hx1 hy]
              exact hs lsA H locs hL hn hol (okA_cons.mpr ⟨mnI hx1 hy, hos⟩) hWR
            · exact hs.elim
          · rename_i x stk
            obtain ⟨hx1, hos⟩ := okA_cons.mp hos
            split at hs
            · rename_i hcat
              have hlk := hts _ (ok_h _ (List.mem_map.mpr ⟨_, ml_mem hml0, rfl⟩))
              refine va_mabs hx hb (hml.trans hL.1.symm) hown hlk (hts _ (gT_of (ok_hs 2 (by simp)) rfl)) (hts _ ok_math) (hts _ (gT_of ok_h2 rfl)) hroom.1 (by rw [cats_val w hos hz]; omega) hroom.2.2.1 hroom.2.2.2 hd ?_
              rw [ab32 hx1]
              exact hs lsA H locs hL hn hol (okA_cons.mpr ⟨abI hx1, hos⟩) hWR
            · exact hs.elim
          · rename_i y x stk
            obtain ⟨hy, hos⟩ := okA_cons.mp hos
            obtain ⟨hx1, hos⟩ := okA_cons.mp hos
            split at hs
            · rename_i hcat
              have hlk := hts _ (ok_h _ (List.mem_map.mpr ⟨_, ml_mem hml0, rfl⟩))
              refine va_mmax_long hx hb (hml.trans hL.1.symm) hown hlk (hts _ (gT_of (ok_hs 3 (by simp)) rfl)) (hts _ ok_math) (hts _ (gT_of ok_h3 rfl)) hroom.1 (by rw [cats_val w hos hz]; omega) hroom.2.2.1 hroom.2.2.2 hd ?_
              rw [mx64 hx1 hy]
              exact hs lsA H locs hL hn hol (okA_cons.mpr ⟨mxL hx1 hy, hos⟩) hWR
            · exact hs.elim
          · rename_i y x stk
            obtain ⟨hy, hos⟩ := okA_cons.mp hos
            obtain ⟨hx1, hos⟩ := okA_cons.mp hos
            split at hs
            · rename_i hcat
              have hlk := hts _ (ok_h _ (List.mem_map.mpr ⟨_, ml_mem hml0, rfl⟩))
              refine va_mmin_long hx hb (hml.trans hL.1.symm) hown hlk (hts _ (gT_of (ok_hs 4 (by simp)) rfl)) (hts _ ok_math) (hts _ (gT_of ok_h4 rfl)) hroom.1 (by rw [cats_val w hos hz]; omega) hroom.2.2.1 hroom.2.2.2 hd ?_
              rw [mn64 hx1 hy]
              exact hs lsA H locs hL hn hol (okA_cons.mpr ⟨mnL hx1 hy, hos⟩) hWR
            · exact hs.elim
          · rename_i x stk
            obtain ⟨hx1, hos⟩ := okA_cons.mp hos
            split at hs
            · rename_i hcat
              have hlk := hts _ (ok_h _ (List.mem_map.mpr ⟨_, ml_mem hml0, rfl⟩))
              refine va_mabs_long hx hb (hml.trans hL.1.symm) hown hlk (hts _ (gT_of (ok_hs 5 (by simp)) rfl)) (hts _ ok_math) (hts _ (gT_of ok_h5 rfl)) hroom.1 (by rw [cats_val w hos hz]; omega) hroom.2.2.1 hroom.2.2.2 hd ?_
              rw [ab64 hx1]
              exact hs lsA H locs hL hn hol (okA_cons.mpr ⟨abLL hx1, hos⟩) hWR
            · exact hs.elim
          · exact hs.elim
    · exact hs.elim
  case invokevirtual i =>
    dsimp only at hs
    split at hs
    · rename_i q
      subst q
      split at hs
      · rename_i k2 n hvl
        generalize hdr : st.drop n = sd at hs
        split at hs
        · rename_i a rest
          split at hs
          · rename_i hc
            obtain ⟨hc1, hca, hc2, hc3⟩ := hc
            obtain ⟨v, h2, hCal, hW2⟩ := hs
            have hm := vl_mem hvl
            have hck := ok_cv _ hm
            unfold chkV at hck
            simp only [Bool.and_eq_true, decide_eq_true_eq] at hck
            obtain ⟨⟨⟨hk2, hin⟩, hse⟩, hpar⟩ := hck
            obtain ⟨rm, hM, hrc, hrs, hfr, hlo⟩ := hCal hk2 (okA_cons.mpr ⟨trivial, fun x hx => hos x (List.mem_of_mem_take (List.mem_reverse.mp hx))⟩) hc3 hWR.2.2.2
            have hmo := m_ok hk2
            have hos0 : okA (.inr (.inr (.inl a)) :: rest) := fun x hx => hos x (List.mem_of_mem_drop (i := n) (by rw [hdr]; exact hx))
            obtain ⟨-, hos1⟩ := okA_cons.mp hos0
            have h14 : mO k2 < 14 := rec_ok _ hm
            have haC : a < nC := mk_lt (by omega)
            have hcw := callB_of (R := R) (own := cnm (mO k)) (index := i) (mc := 0) (ms := 0) n hts (good_M hk2) (show wsM k2 = Jvm.Cond.code (mY k2) (mC k2) (mL k2) (mR k2) :: gT from rfl) hrc hrs (ini_M hk2 hts) (hts _ (ok_v _ (List.mem_map.mpr ⟨_, hm, rfl⟩))) ⟨hmo.2.2.1.1, hmo.2.2.1.2, hpar⟩ ⟨hfr, by have := hmo.2.2.2.2; omega⟩
            have hrecv : ∃ cellB : Cell, H[w.1 a]? = some cellB ∧ cellB.vm.isStatics = false ∧ s.vm.findClass (mY k2).cls = some cellB.cls := by
              rw [hmo.1, ← hca]
              by_cases h13 : (mk a).1 < 13
              · obtain ⟨haM, -⟩ := mk_mut (a := a) (Or.inl h13)
                have := va_recv hK hWR.1 (mcl_get h13) (by rw [wS_get haM, cE_obj h13])
                rw [nm_ok _ h13] at this
                exact this
              · have e13 : (mk a).1 = 13 := by omega
                obtain ⟨cell, r1, r2, r3, -⟩ := (hRM.2.2.2.1 a haC e13).1.kept hWR.2.2.1.2.1
                rw [e13, nm_13]
                exact ⟨cell, r1, r2, r3⟩
            have hstk : st.map (val w) = ((st.take n).reverse.map (val w)).reverse ++ .ref (w.1 a) :: rest.map (val w) := by
              rw [← List.map_reverse, List.reverse_reverse, ← val_ref (w := w) haC, ← List.map_cons, ← hdr, ← List.map_append, List.take_append_drop]
            have hr := va_runV (C := (mY k2).cls) (b := w.1 a) (As := (st.take n).reverse.map (val w)) (rest := rest.map (val w)) (g := F0 m pc lsA (st.map (val w))) (cells := cells) (slots := slots) (locs := locs) (below := below) (meth := meth) (e := e) ⟨hx, hb, hml, hown, hts⟩ hM ⟨hcw, hts _ (ok_i _ (List.mem_map.mpr ⟨_, hin, rfl⟩)), hts _ (ok_e _ (List.mem_map.mpr ⟨_, hse, rfl⟩))⟩ ⟨PcM_blind w A _ h, hrecv, fun U hU hWm => by
                have h9 := pre_M (vs := .inr (.inr (.inl a)) :: (st.take n).reverse) hWR hK hRM U hU hWm
                rw [List.map_cons, val_ref haC] at h9
                exact h9⟩ rfl (by simp; omega) hL.1 hstk (lv_room (by rw [cats_val w hos1 hz]; exact hc2)) hd ⟨hroom.2.2.1, hroom.2.2.2⟩
            exact cal_go hWR hr (fun H1 locs1 hW1 hov => hW2 lsA H1 locs1 hL hn hol (by
              intro x hx
              rcases List.mem_append.mp hx with q | q
              · exact hov x (by cases v with
                  | none => cases q
                  | some y => rw [List.mem_singleton.mp q])
              · exact hos1 x q) hW1)
          · exact hs.elim
        · exact hs.elim
      · exact hs.elim
    · exact hs.elim
  case ireturn =>
    dsimp only at hs
    split at hs
    · rename_i q
      subst q
      split at hs
      · rename_i x
        split at hs
        · rename_i hr
          obtain ⟨hx1, -⟩ := okA_cons.mp hos
          exact hR (some (.inl x)) lsA H locs hs (fun y hy => by cases hy; exact hx1) (Or.inl ⟨hd, x, rfl, hr⟩) hWR
        · exact hs.elim
      · exact hs.elim
    · exact hs.elim
  case lreturn =>
    dsimp only at hs
    split at hs
    · rename_i q
      subst q
      split at hs
      · rename_i x
        split at hs
        · rename_i hr
          obtain ⟨hx1, -⟩ := okA_cons.mp hos
          exact hR (some (.inr (.inl x))) lsA H locs hs (fun y hy => by cases hy; exact hx1) (Or.inr (Or.inl ⟨hd, hr, x, rfl⟩)) hWR
        · exact hs.elim
      · exact hs.elim
    · exact hs.elim
  case return_ =>
    dsimp only at hs
    split at hs
    · rename_i q
      subst q
      split at hs
      · split at hs
        · rename_i hr
          exact hR none lsA H locs hs (fun y hy => by cases hy) (Or.inr (Or.inr ⟨hd, hr, rfl⟩)) hWR
        · exact hs.elim
      · exact hs.elim
    · exact hs.elim
  all_goals exact hs.elim
end SND
