/-! one step of the small machine is a step of the machine -/
def CX (p : Program) (R : Room) (s : State) (m : MethodId) (args : Array Value) (c : Code) (cells slots : Nat) (w : WP) (A : Nat → Prop) (k : Nat) : Prop :=
  (p.tables.exec = Jvm.exec ∧ c.code = mC k ∧ c.maxLocals = mL k ∧ s.vm.findClass (cnm (mO k)) = some m.cls ∧ ∀ q ∈ gT, q.before args s = true) ∧
  va_K w.2.2.1 mcl (tyW w) s ∧ RM w A s s.heap ∧ w.2.1.category = 1 ∧ (1 ≤ R.frames ∧ 60 ≤ R.locals ∧ cells ≤ R.cells ∧ slots ≤ R.slots)
def okA (st : List MV) : Prop := ∀ v ∈ st, okV v
theorem okA_cons {v : MV} {st : List MV} : okA (v :: st) ↔ okV v ∧ okA st := by simp [okA]
def Wt (p : Program) (l : Launch) (e : Env) (R : Room) (s : State) (m : MethodId) (args : Array Value) (below : List Frame) (meth : Method) (c : Code) (cells slots : Nat) (Q : State → Prop) (w : WP) (A : Nat → Prop) (k pc : Nat) (ls st : List MV) (h : MH) : Prop :=
  ∀ (lsA : Array Slot) (H : Heap) (locs : List Loc), lv_has lsA (mL k) (asc w 0 ls) → ls.length = mL k → (∀ v ∈ ls, okL v) → okA st → WR w A s h H locs → W p l e R s m args below meth c H locs cells slots Q (F0 m pc lsA (st.map (val w)))
theorem fetch_ok {k pc : Nat} {r : Instr × Nat} (h : fetch k pc = some r) : decode (mC k) pc = .ok r := by
  unfold fetch at h
  split at h
  · rename_i r2 e; cases h; exact e
  · cases h
section SND
variable {p : Program} {l : Launch} {e : Env} {R : Room} {s : State} {m : MethodId} {args : Array Value} {below : List Frame} {meth : Method} {c : Code} {cells slots : Nat} {Q : State → Prop} {w : WP} {A : Nat → Prop} {k : Nat}
/-- a callee that does as the small machine says -/
def PcM (w : WP) (A : Nat → Prop) (vs : List MV) (h : MH) : Array Value → State → Prop := fun a U =>
  a = (vs.map (val w)).toArray ∧ va_P w.2.2.1 mcl (wS w h) U.heap ∧ va_K w.2.2.1 mcl (tyW w) U ∧ va_D A (wS w h) ∧ RM w A U U.heap
def QcM (w : WP) (A : Nat → Prop) (v : Option MV) (h2 : MH) : Array Value → State → Outcome → State → Prop := fun _ st oc t =>
  oc = .returned (v.map (val w)) ∧ va_P w.2.2.1 mcl (wS w h2) t.heap ∧ va_F A st t
def wsM (k : Nat) : List Jvm.Cond := kW k :: gT
def Cal (l : Launch) (R : Room) (w : WP) (A : Nat → Prop) (k2 : Nat) (vs : List MV) (h : MH) (v : Option MV) (h2 : MH) : Prop :=
  ∃ rm : Room, Met l (mY k2) (wsM k2) rm (PcM w A vs h) (QcM w A v h2) 0 0 A ∧ rm.cells = 0 ∧ rm.slots = 0 ∧ rm.frames + 1 ≤ R.frames ∧ rm.locals + 60 ≤ R.locals ∧ okH h2 ∧ (∀ x, v = some x → okV x) ∧ h2 scC = h scC ∧ slen h2 = slen h
set_option maxRecDepth 100000 in
set_option maxHeartbeats 8000000 in
theorem stp_ok (C : CX p R s m args c cells slots w A k) {pc : Nat} {ls st : List MV} {h : MH} {rt : Option MV → Prop}
    (hR : ∀ (v : Option MV) (lsA : Array Slot) (H : Heap) (locs : List Loc), rt v → (∀ x, v = some x → okV x) → ((decode (mC k) pc = .ok (.ireturn, 1) ∧ ∃ x, v = some (.inl x) ∧ okR (mR k) x = true) ∨ (decode (mC k) pc = .ok (.lreturn, 1) ∧ mR k = some .long ∧ ∃ x, v = some (.inr (.inl x))) ∨ (decode (mC k) pc = .ok (.return_, 1) ∧ mR k = none ∧ v = none)) → WR w A s h H locs → W p l e R s m args below meth c H locs cells slots Q (F0 m pc lsA (v.toList.map (val w))))
    (hs : stp k pc ls st h (fun pc ls st h => Wt p l e R s m args below meth c cells slots Q w A k pc ls st h)
      (fun k2 vs pc2 rest => ∃ v h2, Cal l R w A k2 vs h v h2 ∧ Wt p l e R s m args below meth c cells slots Q w A k pc2 ls (v.toList ++ rest) h2) rt False) :
    Wt p l e R s m args below meth c cells slots Q w A k pc ls st h := by
  obtain ⟨⟨hx, hb, hml, hown, hts⟩, hK, hRM, hz, hroom⟩ := id C
  intro lsA H locs hL hn hol hos hWR
  unfold stp at hs
  cases hf : fetch k pc with
  | none => rw [hf] at hs; exact hs.elim
  | some il =>
  obtain ⟨i, len⟩ := il
  rw [hf] at hs
  have hd := fetch_ok hf
  clear hf
  dsimp only at hs
  cases i
  case iconst n =>
    dsimp only at hs
    split at hs
    · rename_i q
      subst q
      exact lv_iconst hx hb hd (i32_w n).symm (hs lsA H locs hL hn hol (okA_cons.mpr ⟨wI_in n, hos⟩) hWR)
    · exact hs.elim
  case iload_n n =>
    dsimp only at hs
    split at hs
    · rename_i q
      subst q
      split at hs
      · rename_i x hx0
        have hv : okV (.inl x) := by
          rcases hol _ (List.mem_of_getElem? hx0) with q | q
          · cases q
          · exact q
        exact lv_iload_n hx hb hd rfl (asc_get hL hx0 (by intro q; cases q)) (hs lsA H locs hL hn hol (okA_cons.mpr ⟨hv, hos⟩) hWR)
      · exact hs.elim
    · exact hs.elim
  case istore_n n =>
    dsimp only at hs
    split at hs
    · rename_i q
      subst q
      split at hs
      · rename_i x st2
        obtain ⟨hv, hos⟩ := okA_cons.mp hos
        split at hs
        · rename_i hlt
          exact lv_istore_n hx hb hd rfl hL (by rw [← hn]; exact hlt) rfl (fun ls2 hL2 => hs ls2 H locs (asc_st1 hz hol hlt hL2) ((st1_len _ _ _).trans hn) (okL_st1 hol hv) hos hWR)
        · exact hs.elim
      · exact hs.elim
    · exact hs.elim
  case iadd =>
    dsimp only at hs
    split at hs
    · rename_i q
      subst q
      split at hs
      · rename_i y x st2
        obtain ⟨hy, hos⟩ := okA_cons.mp hos
        obtain ⟨hx1, hos⟩ := okA_cons.mp hos
        refine lv_iadd hx hb hd ?_
        rw [i32_add]
        exact hs lsA H locs hL hn hol (okA_cons.mpr ⟨wI_in _, hos⟩) hWR
      · exact hs.elim
    · exact hs.elim
  all_goals sorry
end SND
