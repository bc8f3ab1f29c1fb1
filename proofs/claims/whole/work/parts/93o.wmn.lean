/-! new int[n][k], a row -/
section MNT
variable {p : Program} {l : Launch} {e : Env} {R : Room} {s : State} {m : MethodId} {args : Array Value} {below : List Frame} {meth : Method} {c : Code} {H : Heap} {locs : List Loc} {cells slots : Nat} {Q : State → Prop} {cc : ByteArray} {pc : Nat} {ls : Array Slot} {rest : List Value}
theorem mnS_stand {U : State} {cA cy : ClassId} {N K : Nat} (X : Stand p l e R s m args below meth c U locs cells slots) : ∀ i, ∃ L : List Loc, (∀ q ∈ L, q.base = U.heap.size) ∧ Stand p l e R s m args below meth c (mnS U cA cy N K i) (locs ++ L) (cells + 1 + i) (slots + N + i * K) := by
  intro i
  induction i with
  | zero =>
    refine ⟨[], (fun q hq => nomatch hq), ?_⟩
    have h := X.pushed (mnO cA N U.heap.size 0)
    rw [(mnO_facts cA N U.heap.size 0).2.2] at h
    rw [List.append_nil, Nat.zero_mul]
    exact h
  | succ i ih =>
    obtain ⟨L, hL, Xi⟩ := ih
    obtain ⟨m1, m2, m3, m4, m5, m6, m7⟩ := mnS_facts U cA cy N K i
    have h := Xi.pushed (mnJ cy K)
    rw [show (mnJ cy K).slots.size = K from Array.size_replicate] at h
    have hc : ((mnS U cA cy N K i).pushCell (mnJ cy K)).heap[U.heap.size]? = some (mnO cA N U.heap.size i) := by
      show ((mnS U cA cy N K i).heap.push (mnJ cy K))[U.heap.size]? = _
      rw [Array.getElem?_push, if_neg (by rw [m1]; omega), m2]
    have h2 := h.stored hc i (.ref (U.heap.size + 1 + i))
    refine ⟨L ++ [⟨U.heap.size, i⟩], fun q hq => ?_, ?_⟩
    · rcases List.mem_append.mp hq with z | z
      · exact hL q z
      · rw [List.mem_singleton.mp z]
    · rw [← List.append_assoc, show slots + N + (i + 1) * K = slots + N + i * K + K by rw [Nat.add_mul]; omega]
      exact h2
theorem mnO_arr (cA : ClassId) (N h0 : Nat) : mnO cA N h0 N = arrV cA N (fun j => va_rf (if j < N then some (h0 + 1 + j) else none)) := by
  have key : ∀ i, mnO cA N h0 i = arrV cA N (fun j => va_rf (if j < i then some (h0 + 1 + j) else none)) := by
    intro i
    induction i with
    | zero =>
      show ({ cls := cA, slots := Array.replicate N .null, vm := .none } : Cell) = _
      rw [arrV_new]
      rfl
    | succ i ih =>
      show (mnO cA N h0 i).setSlot i (.ref (h0 + 1 + i)) = _
      rw [ih, arrV_store]
      congr 1
      funext j
      unfold updV
      by_cases e : j = i
      · subst e
        simp [va_rf]
      · by_cases q : j < i
        · simp [e, q, Nat.lt_succ_of_lt q]
        · simp [e, q, show ¬ j < i + 1 by omega]
  exact key N
theorem W_mna (hexec : p.tables.exec = Jvm.exec) (hb : c.code = cc) {own : String} {index : Nat} (hown : s.vm.findClass own = some m.cls) (hclink : (Cond.classLink own index ("[" ++ (FieldType.array .int).toString)).before args s = true) (hover : va_Nw (Cond.arrayOver (.array .int)) s) (harr : (Cond.arrayClass .int).before args s = true)
    {n k : Int32} {N K : Nat} (hn : ¬ n < 0) (hk : ¬ k < 0) (hN : n.toNatClampNeg = N) (hK : k.toNatClampNeg = K) (hb1 : N * 4 ≤ 536870912) (hb2 : K * 4 ≤ 536870912) (hcells : cells + (1 + N) ≤ R.cells) (hslots : slots + (N + N * K) ≤ R.slots) (hdg : decode cc pc = .ok (.multianewarray index 2, 4))
    (kk : ∀ (H1 : Heap) (cA cy : ClassId), s.vm.findClass ("[" ++ (FieldType.array .int).toString) = some cA → s.vm.findClass (FieldType.array .int).toString = some cy → H1.size = H.size + 1 + N → (∀ q : Nat, q < H.size → H1[q]? = H[q]?) → H1[H.size]? = some (arrV cA N (fun j => va_rf (if j < N then some (H.size + 1 + j) else none))) → (∀ j : Nat, j < N → H1[H.size + 1 + j]? = some (arrV cy K (fun _ => .int 0))) →
      W p l e R s m args below meth c H1 locs (cells + 1 + N) (slots + N + N * K) Q (F0 m (pc + 4) ls (.ref H.size :: rest))) : W p l e R s m args below meth c H locs cells slots Q (F0 m pc ls (.int k :: .int n :: rest)) := by
  subst hN
  subst hK
  subst hb
  intro T hT X
  obtain ⟨cy, cA, kA, f1, f2, f3, f4⟩ := ao_spec2 (args := args) (show (Cond.arrayOver (.array .int)).before args s = true from hover)
  obtain ⟨cy', ky, ci, g1, g2, g3⟩ := Cond.arrayClass_spec (show (Cond.arrayClass .int).holds args s none s [] = true from harr)
  have ec : cy' = cy := Option.some.inj (g1.symm.trans f1)
  subst ec
  have hpl : e.platform.magicAccessors = ({} : Platform).magicAccessors := by rw [X.admits.platform]
  obtain ⟨c9, hfcc, hcl⟩ := Cond.classLink_spec hown hclink e.platform hpl
  have e9 : c9 = cA := Option.some.inj (hfcc.symm.trans f4)
  subst e9
  obtain ⟨hg1, hw1, hr1⟩ := State.classEntry (e := e) X.warmed hcl
  generalize T.vm.noted m.cls index (.cls c9) = vm1 at hg1 hw1 hr1
  have hal : s.vm.Alike vm1 := hw1.alike
  obtain ⟨kA1, hkA1, heA⟩ := hal.2.2 _ _ f2
  obtain ⟨ky1, hky1, heY⟩ := hal.2.2 _ _ g2
  have X1 := X.noted hw1
  obtain ⟨r1, r2⟩ := X1.roomAbove hcells hslots
  obtain ⟨L, hL, XL⟩ := mnS_stand (cA := c9) (cy := cy') (N := n.toNatClampNeg) (K := k.toNatClampNeg) X1 n.toNatClampNeg
  have hsz : s.heap.size ≤ T.heap.size := by first | exact X.same.1 | exact X.same.2.1
  have X2 := XL.forget (fun y hy => by rw [hL y hy]; exact hsz)
  have hTh : (T.setVm vm1).heap = H := hT
  obtain ⟨m1, m2, m3, m4, m5, m6, m7⟩ := mnS_facts (T.setVm vm1) c9 cy' n.toNatClampNeg k.toNatClampNeg n.toNatClampNeg
  rw [hTh] at m1 m2
  rw [hTh] at m3 m4
  rw [mnO_arr] at m2
  obtain ⟨t, a1, b1⟩ := kk _ c9 cy' f4 f1 m1 m3 m2 (fun j hj => by rw [m4 j hj]; show some ({ cls := cy', slots := Array.replicate _ _, vm := .none } : Cell) = _; rw [arrV_new]; rfl) _ rfl X2
  refine ⟨t, ?_, b1⟩
  have l1 : ¬ n.toNatClampNeg > e.platform.arrayLengthLimit := by rw [Launch.admits_arrayLengthLimit X.admits]; omega
  have l2 : ¬ k.toNatClampNeg > e.platform.arrayLengthLimit := by rw [Launch.admits_arrayLengthLimit X.admits]; omega
  have b1' : ¬ n.toNatClampNeg * componentBytes (.array .int) > e.platform.maxHeapBytes := by rw [Launch.admits_maxHeapBytes X.admits]; show ¬ n.toNatClampNeg * 4 > 536870912; omega
  have b2' : ¬ k.toNatClampNeg * componentBytes .int > e.platform.maxHeapBytes := by rw [Launch.admits_maxHeapBytes X.admits]; show ¬ k.toNatClampNeg * 4 > 536870912; omega
  jvm_step X.here [hexec, hdg, mn_cold (e := e) (U := T) (f := F0 m pc ls (.int k :: .int n :: rest)) X.here.top hg1 hr1]
  refine mn_sem (U := T.setVm vm1) X.here.top hr1 rfl hn hk hkA1 (by rw [heA]; exact f3) hky1 (by rw [heY]; exact g3) l1 b1' l2 b2' r1 r2 (fun acts' => ?_)
  rw [hTh]
  have ht : (mnS (T.setVm vm1) c9 cy' n.toNatClampNeg k.toNatClampNeg n.toNatClampNeg).topJava?.isSome := by rw [m6]; exact X.here.top
  intro acts2
  first | (simpa [jvm, ht] using a1) | (simp [jvm, ht, afterInstr]; exact a1) | (simp [afterInstr, ht, State.topJava?_setTop' _ ht, State.setTop_setTop]; exact a1)
end MNT
