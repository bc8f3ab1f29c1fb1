/-! new int[n][k], over the machine's own steps (to take the place of W_mna's ground in 93) -/
def mnO (cA : ClassId) (N h0 : Nat) : Nat → Cell
  | 0 => { cls := cA, slots := Array.replicate N .null, vm := .none }
  | i + 1 => (mnO cA N h0 i).setSlot i (.ref (h0 + 1 + i))
def mnJ (cy : ClassId) (K : Nat) : Cell := { cls := cy, slots := Array.replicate K (defaultValue .int), vm := .none }
def mnS (U : State) (cA cy : ClassId) (N K : Nat) : Nat → State
  | 0 => U.pushCell (mnO cA N U.heap.size 0)
  | i + 1 => ((mnS U cA cy N K i).pushCell (mnJ cy K)).setCell U.heap.size (mnO cA N U.heap.size (i + 1))
theorem mnO_facts (cA : ClassId) (N h0 : Nat) : ∀ i, (mnO cA N h0 i).cls = cA ∧ (mnO cA N h0 i).vm = .none ∧ (mnO cA N h0 i).slots.size = N := by
  intro i
  induction i with
  | zero => exact ⟨rfl, rfl, Array.size_replicate⟩
  | succ i ih =>
    refine ⟨ih.1, ih.2.1, ?_⟩
    show ((mnO cA N h0 i).setSlot i (.ref (h0 + 1 + i))).slots.size = N
    simp [Cell.setSlot, ih.2.2]
theorem mnS_facts (U : State) (cA cy : ClassId) (N K : Nat) : ∀ i, (mnS U cA cy N K i).heap.size = U.heap.size + 1 + i ∧ (mnS U cA cy N K i).heap[U.heap.size]? = some (mnO cA N U.heap.size i) ∧ (∀ q : Nat, q < U.heap.size → (mnS U cA cy N K i).heap[q]? = U.heap[q]?) ∧ (∀ j : Nat, j < i → (mnS U cA cy N K i).heap[U.heap.size + 1 + j]? = some (mnJ cy K)) ∧ (mnS U cA cy N K i).vm = U.vm ∧ (mnS U cA cy N K i).topJava? = U.topJava? ∧ (mnS U cA cy N K i).slotsUsed = U.slotsUsed + N + i * K := by
  intro i
  induction i with
  | zero =>
    refine ⟨?_, ?_, fun q hq => ?_, fun j hj => by omega, rfl, rfl, ?_⟩
    · show (U.heap.push _).size = _
      rw [Array.size_push]
    · show (U.heap.push _)[U.heap.size]? = _
      rw [Array.getElem?_push, if_pos rfl]
    · show (U.heap.push _)[q]? = _
      rw [Array.getElem?_push, if_neg (Nat.ne_of_lt hq)]
    · show U.slotsUsed + (mnO cA N U.heap.size 0).slots.size = _
      rw [(mnO_facts cA N U.heap.size 0).2.2]; omega
  | succ i ih =>
    obtain ⟨h1, h2, h3, h4, h5, h6, h7⟩ := ih
    have hp : ∀ q : Nat, (mnS U cA cy N K (i + 1)).heap[q]? = (((mnS U cA cy N K i).heap.push (mnJ cy K)).setIfInBounds U.heap.size (mnO cA N U.heap.size (i + 1)))[q]? := fun _ => rfl
    refine ⟨?_, ?_, fun q hq => ?_, fun j hj => ?_, h5, h6, ?_⟩
    · show (((mnS U cA cy N K i).heap.push (mnJ cy K)).setIfInBounds U.heap.size _).size = _
      rw [Array.size_setIfInBounds, Array.size_push, h1]; omega
    · rw [hp, Array.getElem?_setIfInBounds_self_of_lt (by rw [Array.size_push, h1]; omega)]
    · rw [hp, Array.getElem?_setIfInBounds_ne (by omega), Array.getElem?_push, if_neg (by rw [h1]; omega), h3 q hq]
    · rw [hp, Array.getElem?_setIfInBounds_ne (by omega), Array.getElem?_push]
      by_cases q : U.heap.size + 1 + j = (mnS U cA cy N K i).heap.size
      · rw [if_pos q]
      · rw [if_neg q, h4 j (by rw [h1] at q; omega)]
    · show (mnS U cA cy N K i).slotsUsed + (mnJ cy K).slots.size = _
      rw [h7, show (mnJ cy K).slots.size = K from Array.size_replicate, Nat.add_mul]; omega
section MNW
variable {E : CtlPost} {e : Env} {d : Bool} {acts : List Action} {U : State} {f : JFrame}
theorem mn_inner {cy ci : ClassId} {ky : Class} {k : Int32} {Q : Addr → Pre} (hk : ¬ k < 0) (hcy : U.vm.classes[cy]? = some ky) (hkd : ky.kind = .array ci .int) (hlimit : ¬ k.toNatClampNeg > e.platform.arrayLengthLimit) (hheap : ¬ k.toNatClampNeg * componentBytes .int > e.platform.maxHeapBytes) (h1 : U.heap.size < e.platform.maxCells) (h2 : U.slotsUsed + k.toNatClampNeg ≤ e.platform.maxSlots) (hq : ∀ d' acts', Q U.heap.size d' acts' ((U.pushCell (mnJ cy k.toNatClampNeg)).setTop f)) : wp (Op.multianewarray.make cy [k]) Q E e d acts (U.setTop f) := by
  have hfit : ∀ i v, (Array.replicate k.toNatClampNeg (defaultValue .int))[i]? = some v → U.fitsSlot cy .none i v = true := by
    intro i v hv
    simp only [Array.getElem?_replicate] at hv
    split at hv
    · cases hv; simp [State.fitsSlot, State.slotType?, hcy, hkd, fits_default]
    · cases hv
  unfold Op.multianewarray.make
  simp only [wp_bind', Jvm.W.ite, hk, if_false, wp_pure', Jvm.W.theClass, State.vm_setTop, hcy, Option.some.injEq, exists_eq_left', hkd, Jvm.newArray, Jvm.arrayFits, Jvm.W.ask, hlimit, hheap, Jvm.W.alloc, Jvm.W.stop, State.heap_setTop, State.slotsUsed_setTop, State.fitsSlot_setTop, Array.size_replicate, State.pushCell_setTop]
  rw [if_neg (by omega)]
  exact ⟨h1, h2, hfit, hq _ _⟩
/-- the loop: from i rows made to all of them -/
theorem mn_loop {cA cy ci : ClassId} {kA ky : Class} {N : Nat} {k : Int32} {Q : PUnit → Pre} {g : Nat → PUnit → Sem (ForInStep PUnit)} (hg : ∀ i, g i PUnit.unit = (do let x ← Op.multianewarray.make cy [k]; writeLoc U.heap.size i (.ref x); Pure.pure (ForInStep.yield PUnit.unit))) (hk : ¬ k < 0) (hcA : U.vm.classes[cA]? = some kA) (hkA : kA.kind = .array cy (.array .int)) (hcy : U.vm.classes[cy]? = some ky) (hkd : ky.kind = .array ci .int) (hlimit : ¬ k.toNatClampNeg > e.platform.arrayLengthLimit) (hheap : ¬ k.toNatClampNeg * componentBytes .int > e.platform.maxHeapBytes) (r1 : U.heap.size + (1 + N) ≤ e.platform.maxCells) (r2 : U.slotsUsed + (N + N * k.toNatClampNeg) ≤ e.platform.maxSlots) (hq : ∀ d' acts', Q PUnit.unit d' acts' ((mnS U cA cy N k.toNatClampNeg N).setTop f)) : wp (forIn (List.range' 0 N 1) PUnit.unit g) Q E e d acts ((mnS U cA cy N k.toNatClampNeg 0).setTop f) := by
  refine wp_forIn_inv (fun l S => ∃ i, i ≤ N ∧ l = List.range' i (N - i) 1 ∧ S = (mnS U cA cy N k.toNatClampNeg i).setTop f) g _ ⟨0, Nat.zero_le _, rfl, rfl⟩ ?_ ?_
  · rintro x rest s' d' acts' Q' ⟨i, hi, hl, rfl⟩ hQ
    obtain ⟨m1, m2, m3, m4, m5, m6, m7⟩ := mnS_facts U cA cy N k.toNatClampNeg i
    have hlt : i < N := by
      have := congrArg List.length hl
      rw [List.length_cons, List.length_range'] at this
      omega
    rw [show N - i = N - (i + 1) + 1 by omega, List.range'_succ] at hl
    injection hl with e1 e2
    subst e1
    have hik : x * k.toNatClampNeg + k.toNatClampNeg ≤ N * k.toNatClampNeg := by
      rw [← Nat.succ_mul]
      exact Nat.mul_le_mul_right _ hlt
    rw [hg x]
    simp only [wp_bind']
    refine mn_inner hk (by rw [m5]; exact hcy) hkd hlimit hheap (by rw [m1]; omega) (by rw [m7]; omega) (fun d2 acts2 => ?_)
    rw [m1, wp_bind', Jvm.W.writeLoc]
    obtain ⟨f1, f2, f3⟩ := mnO_facts cA N U.heap.size x
    refine ⟨mnO cA N U.heap.size x, ?_, (by rw [f2]; exact (fun z => nomatch z)), (by rw [f3]; exact hlt), ?_, ?_⟩
    · show ((mnS U cA cy N k.toNatClampNeg x).heap.push (mnJ cy k.toNatClampNeg))[U.heap.size]? = _
      rw [Array.getElem?_push, if_neg (by rw [m1]; omega), m2]
    · rw [f1, f2, State.fitsSlot_setTop]
      have hv : ((mnS U cA cy N k.toNatClampNeg x).pushCell (mnJ cy k.toNatClampNeg)).vm.classes[cA]? = some kA := by
        show (mnS U cA cy N k.toNatClampNeg x).vm.classes[cA]? = some kA
        rw [m5]; exact hcA
      have hv0 : (mnS U cA cy N k.toNatClampNeg x).vm.classes[cA]? = some kA := hv
      simp [State.fitsSlot, State.slotType?, hv0, hkA, fits]
    · simp only [wp_pure']
      exact hQ _ _ _ ⟨x + 1, hlt, by rw [e2], rfl⟩
  · rintro s' d' acts' ⟨i, hi, hl, rfl⟩
    have hN : i = N := by
      have := congrArg List.length hl
      rw [List.length_nil, List.length_range'] at this
      omega
    subst hN
    exact hq _ _
theorem mn_make {cA cy ci : ClassId} {kA ky : Class} {n k : Int32} {Q : Addr → Pre} (hn : ¬ n < 0) (hk : ¬ k < 0) (hcA : U.vm.classes[cA]? = some kA) (hkA : kA.kind = .array cy (.array .int)) (hcy : U.vm.classes[cy]? = some ky) (hkd : ky.kind = .array ci .int) (l1 : ¬ n.toNatClampNeg > e.platform.arrayLengthLimit) (b1 : ¬ n.toNatClampNeg * componentBytes (.array .int) > e.platform.maxHeapBytes) (hlimit : ¬ k.toNatClampNeg > e.platform.arrayLengthLimit) (hheap : ¬ k.toNatClampNeg * componentBytes .int > e.platform.maxHeapBytes) (r1 : U.heap.size + (1 + n.toNatClampNeg) ≤ e.platform.maxCells) (r2 : U.slotsUsed + (n.toNatClampNeg + n.toNatClampNeg * k.toNatClampNeg) ≤ e.platform.maxSlots) (hq : ∀ d' acts', Q U.heap.size d' acts' ((mnS U cA cy n.toNatClampNeg k.toNatClampNeg n.toNatClampNeg).setTop f)) : wp (Op.multianewarray.make cA [n, k]) Q E e d acts (U.setTop f) := by
  have hfit : ∀ i v, (Array.replicate n.toNatClampNeg Value.null)[i]? = some v → U.fitsSlot cA .none i v = true := by
    intro i v hv
    simp only [Array.getElem?_replicate] at hv
    split at hv
    · cases hv; simp [State.fitsSlot, State.slotType?, hcA, hkA, fits]
    · cases hv
  have hf : List.find? (fun x => decide (x < 0)) [k] = none := by simp [hk]
  have hsz : (Std.Legacy.Range.mk 0 n.toNatClampNeg 1 (by decide)).size = n.toNatClampNeg := by simp [Std.Legacy.Range.size]
  have hlp : ∀ (d' : Bool) (acts' : List Action) (Q2 : PUnit → Pre), (∀ d' acts', Q2 PUnit.unit d' acts' ((mnS U cA cy n.toNatClampNeg k.toNatClampNeg n.toNatClampNeg).setTop f)) → wp (forIn (Std.Legacy.Range.mk 0 n.toNatClampNeg 1 (by decide)) PUnit.unit (fun i (_ : PUnit) => do let x ← Op.multianewarray.make cy [k]; writeLoc U.heap.size i (.ref x); Pure.pure (ForInStep.yield PUnit.unit))) Q2 E e d' acts' ((mnS U cA cy n.toNatClampNeg k.toNatClampNeg 0).setTop f) := by
    intro d' acts' Q2 h2
    rw [Std.Legacy.Range.forIn_eq_forIn_range', hsz]
    exact mn_loop (fun i => rfl) hk hcA hkA hcy hkd hlimit hheap r1 r2 h2
  unfold Op.multianewarray.make
  simp only [wp_bind', Jvm.W.ite, hn, if_false, wp_pure', Jvm.W.theClass, State.vm_setTop, hcA, Option.some.injEq, exists_eq_left', hkA, Jvm.newArray, Jvm.arrayFits, Jvm.W.ask, l1, b1, Jvm.W.alloc, Jvm.W.stop, State.heap_setTop, State.slotsUsed_setTop, State.fitsSlot_setTop, Array.size_replicate, State.pushCell_setTop, hf]
  rw [if_neg (by omega)]
  refine ⟨by omega, by omega, hfit, ?_⟩
  by_cases q0 : (n == 0) = true
  · simp only [q0, if_true, wp_pure']
    exact hlp _ _ _ hq
  · simp only [q0, if_false, wp_pure']
    exact hlp _ _ _ hq
theorem mn_sem {index : Nat} {cA cy ci : ClassId} {kA ky : Class} {n k : Int32} {rest : List Value} {Q : Unit → Pre} (hs : U.topJava?.isSome) (hr : U.vm.classReady f.method.cls index cA) (hst : f.stack = .int k :: .int n :: rest) (hn : ¬ n < 0) (hk : ¬ k < 0) (hcA : U.vm.classes[cA]? = some kA) (hkA : kA.kind = .array cy (.array .int)) (hcy : U.vm.classes[cy]? = some ky) (hkd : ky.kind = .array ci .int) (l1 : ¬ n.toNatClampNeg > e.platform.arrayLengthLimit) (b1 : ¬ n.toNatClampNeg * componentBytes (.array .int) > e.platform.maxHeapBytes) (hlimit : ¬ k.toNatClampNeg > e.platform.arrayLengthLimit) (hheap : ¬ k.toNatClampNeg * componentBytes .int > e.platform.maxHeapBytes) (r1 : U.heap.size + (1 + n.toNatClampNeg) ≤ e.platform.maxCells) (r2 : U.slotsUsed + (n.toNatClampNeg + n.toNatClampNeg * k.toNatClampNeg) ≤ e.platform.maxSlots) (hq : ∀ acts', Q () true acts' ((mnS U cA cy n.toNatClampNeg k.toNatClampNeg n.toNatClampNeg).setTop { f with stack := .ref U.heap.size :: rest })) : wp (Op.multianewarray.sem index 2) Q E e d acts (U.setTop f) := by
  unfold Op.multianewarray.sem
  simp only [wp_bind', Jvm.W.resolveClassAt_ready (State.method?_setTop f hs) hr]
  rw [Jvm.W.popN, if_neg (by decide)]
  refine ⟨f, State.topJava?_setTop' _ hs, [.int n, .int k], rest, rfl, by rw [hst]; rfl, ?_⟩
  simp only [List.mapM_cons, List.mapM_nil, wp_bind', wp_pure', State.setTop_setTop]
  refine mn_make hn hk hcA hkA hcy hkd l1 b1 hlimit hheap r1 r2 (fun d' acts' => ?_)
  have ht : (mnS U cA cy n.toNatClampNeg k.toNatClampNeg n.toNatClampNeg).topJava?.isSome := by rw [(mnS_facts U cA cy n.toNatClampNeg k.toNatClampNeg n.toNatClampNeg).2.2.2.2.2.1]; exact hs
  refine ⟨_, State.topJava?_setTop' _ ht, ?_⟩
  rw [State.setTop_setTop]
  exact hq _
theorem mn_cold {index c : Nat} {vm' : Vm} {Q : Unit → Pre} (hs : U.topJava?.isSome) (hg : (Jvm.resolveClass f.method.cls index).Gives e.toSetting U.vm (.ok c) vm') (hr : vm'.classReady f.method.cls index c) (hsz : vm'.classes.size ≤ U.vm.classes.size := by no_record) : wp (Op.multianewarray.sem index 2) Q E e d acts (U.setTop f) ↔ wp (Op.multianewarray.sem index 2) Q E e d acts ((U.setVm vm').setTop f) := by
  simp only [Op.multianewarray.sem, wp_bind']
  exact Jvm.W.resolveClassAt_transfer (s := U.setTop f) (State.method?_setTop f hs) hg hr
end MNW
theorem ao_spec2 {args : Array Value} {s : State} (h : (Cond.arrayOver (.array .int)).before args s = true) : ∃ (comp c : ClassId) (k : Class), s.vm.findClass (FieldType.array .int).toString = some comp ∧ s.vm.classes[c]? = some k ∧ k.kind = .array comp (.array .int) ∧ s.vm.findClass ("[" ++ (FieldType.array .int).toString) = some c := by
  simp only [Cond.before, Cond.holds, Cond.value, beq_iff_eq, Option.bind_eq_some_iff, Option.map_eq_some_iff] at h
  obtain ⟨comp, hc, c, hi, k, hk, hb⟩ := h
  obtain ⟨hlt, hp, -⟩ := Array.findIdx?_eq_some_iff_getElem.mp hi
  have hkk : s.vm.classes[c] = k := (Array.getElem?_eq_some_iff.mp hk).2
  rw [hkk] at hp
  cases hkd : k.kind with
  | array c2 ty =>
    rw [hkd] at hb hp
    simp only [Bool.and_eq_true, decide_eq_true_eq] at hb
    have hc2 : c2 = comp := by simpa using hp
    obtain ⟨rfl, h2⟩ := hb
    subst hc2
    exact ⟨c2, c, k, hc, hk, hkd, h2⟩
  | _ => rw [hkd] at hb; cases hb
