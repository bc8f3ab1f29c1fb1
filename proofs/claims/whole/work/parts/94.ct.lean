/-! constructors: rows over a world that grows at its end -/
def tyT (T : Nat → ClassId) : List (ClassId × FieldType) := [(T 0, .int), (T 1, .byte), (T 2, .boolean), (T 3, .long), (T 4, .array .int)]
theorem va_P_mem {D : va_G} {cl : List vw_C} {ws : va_W} {H : Heap} : va_P D cl ws H ↔ ∀ q ∈ ws, va_at D cl q H :=
  ⟨fun h q hq => by
    obtain ⟨k, hk⟩ := List.getElem?_of_mem hq
    exact h k q hk, fun h k q hk => h q (List.mem_of_getElem? hk)⟩
theorem va_D_mem {A : Nat → Prop} {ws : va_W} : va_D A ws ↔ ws.Pairwise (fun x y => x.1 ≠ y.1) ∧ ∀ q ∈ ws, A q.1 := by
  constructor
  · rintro ⟨h1, h2⟩
    refine ⟨List.pairwise_iff_getElem.mpr (fun i j hi hj hij e => ?_), fun q hq => ?_⟩
    · have := h1 i j _ _ (List.getElem?_eq_getElem hi) (List.getElem?_eq_getElem hj) e
      omega
    · obtain ⟨k, hk⟩ := List.getElem?_of_mem hq
      exact h2 k q hk
  · rintro ⟨h1, h2⟩
    refine ⟨fun i j x y hx hy e => ?_, fun k q hk => h2 q (List.mem_of_getElem? hk)⟩
    obtain ⟨hi, ei⟩ := List.getElem?_eq_some_iff.mp hx
    obtain ⟨hj, ej⟩ := List.getElem?_eq_some_iff.mp hy
    have h3 := List.pairwise_iff_getElem.mp h1
    rcases Nat.lt_trichotomy i j with q | q | q
    · exact absurd (by rw [ei, ej]; exact e) (h3 i j hi hj q)
    · exact q
    · exact absurd (by rw [ei, ej]; exact e.symm) (h3 j i hj hi q)
theorem va_P_perm {D : va_G} {cl : List vw_C} {ws ws' : va_W} {H : Heap} (p : ws.Perm ws') (h : va_P D cl ws H) : va_P D cl ws' H := va_P_mem.mpr fun q hq => va_P_mem.mp h q (p.mem_iff.mpr hq)
theorem va_D_perm {A : Nat → Prop} {ws ws' : va_W} (p : ws.Perm ws') (h : va_D A ws) : va_D A ws' := by
  obtain ⟨h1, h2⟩ := va_D_mem.mp h
  exact va_D_mem.mpr ⟨(p.pairwise_iff (fun {a b} q e => q e.symm)).mp h1, fun q hq => h2 q (p.mem_iff.mpr hq)⟩
/-- private constructors -/
def nwY (k : Nat) : MethodName := ⟨match k with
  | 0 => "CannonPost$Tape"
  | 1 => "CannonPost$League"
  | 2 => "CannonPost$Lawbook"
  | 3 => "CannonPost$History"
  | _ => "CannonPost$State", "<init>", "()V"⟩
def nwC (e : String × Nat × Nat) : Jvm.Cond := .methodLinkNest e.1 e.2.1 (nwY e.2.2) "CannonPost"
def nwL : List (String × Nat × Nat) := [("CannonPost", 9, 0), ("CannonPost", 18, 1), ("CannonPost", 41, 2), ("CannonPost", 80, 3), ("CannonPost", 87, 4), ("CannonPost$LeagueReader", 11, 1)]
/-- what the tables say, beside the words that stay -/
def VBs (D : va_G) (T v : Nat → Nat) (U : State) : Prop := va_K D mcl (tyT T) U ∧ va_Nw (Cond.arrayOver (.array .int)) U ∧ (∀ e ∈ nwL, va_Nw (nwC e) U) ∧ ∀ e ∈ rL, ∃ tx, vk_R (cnm e.1) e.2.1 tx (v e.2.2) U
theorem VBs.warm {D : va_G} {T v : Nat → Nat} {u U : State} (hW : u.WarmedH U.vm) (h : VBs D T v u) : VBs D T v U :=
  ⟨va_K.moved hW.alike h.1, AO_moved hW.alike h.2.1, fun e he => va_Nw.warmM hW (h.2.2.1 e he), fun e he => ⟨_, vk_R.warm hW (h.2.2.2 e he).choose_spec⟩⟩
theorem VBs.same {D : va_G} {T v : Nat → Nat} {u U : State} (hv : U.vm = u.vm) (h : VBs D T v u) : VBs D T v U := by
  have hm : u.vm.Alike U.vm := by rw [hv]; exact Vm.Alike.refl _
  exact ⟨va_K.moved hm h.1, AO_moved hm h.2.1, fun e he => va_Nw.same rfl hv.symm (h.2.2.1 e he), fun e he => ⟨_, vk_R.same hv (h.2.2.2 e he).choose_spec⟩⟩
/-- what a constructor makes: cells by number, rows of rows -/
abbrev US : Type := (Nat → Nat) × (Nat → Nat → Nat)
def CtP (D : va_G) (T v : Nat → Nat) (A : Nat → Prop) (h0 ci : Nat) (fs0 as : List Value) (ws : va_W) : Array Value → State → Prop := fun a U =>
  a = (Value.ref h0 :: as).toArray ∧ va_P D mcl ((h0, .inr (ci, fs0)) :: ws) U.heap ∧ va_D A ((h0, .inr (ci, fs0)) :: ws) ∧ VBs D T v U ∧ ∀ q : Nat, U.heap.size ≤ q → A q
def CtQ (D : va_G) (A : Nat → Prop) (h0 ci : Nat) (fs : US → List Value) (ws : va_W) (nw : US → va_W) : Array Value → State → Outcome → State → Prop := fun _ st oc t =>
  oc = .returned none ∧ va_F A st t ∧ ∃ u : US, va_P D mcl ((h0, .inr (ci, fs u)) :: (ws ++ nw u)) t.heap ∧ va_D A ((h0, .inr (ci, fs u)) :: (ws ++ nw u))
def rmC (d mc ms : Nat) : Room := { frames := d, cells := mc, slots := ms, locals := 60 * d }
def CW (p : Program) (l : Launch) (e : Env) (R : Room) (s : State) (m : MethodId) (args : Array Value) (below : List Frame) (meth : Method) (c : Code) (Q : State → Prop) (D : va_G) (A : Nat → Prop) (ws : va_W) (cells slots pc : Nat) (ls : Array Slot) (st : List Value) : Prop :=
  ∀ (H : Heap) (locs : List Loc), va_P D mcl ws H → va_D A ws → va_S A s.heap H locs → W p l e R s m args below meth c H locs cells slots Q (F0 m pc ls st)
def CC (p : Program) (s : State) (m : MethodId) (args : Array Value) (c : Code) (D : va_G) (T v : Nat → Nat) (A : Nat → Prop) (own : String) (cc : ByteArray) (nL : Nat) (ls : Array Slot) : Prop :=
  CallFix p m c cc nL s args gT own ∧ VBs D T v s ∧ (∀ q : Nat, s.heap.size ≤ q → A q) ∧ ls.size = nL
section CTR
variable {p : Program} {l : Launch} {e : Env} {R : Room} {s : State} {m : MethodId} {args : Array Value} {below : List Frame} {meth : Method} {c : Code} {Q : State → Prop} {D : va_G} {T v : Nat → Nat} {A : Nat → Prop} {own : String} {cc : ByteArray} {nL : Nat} {ws : va_W} {cells slots pc : Nat} {ls : Array Slot} {st : List Value}
theorem ct_aload (K : CC p s m args c D T v A own cc nL ls) (pc' : Nat) (n : Fin 4) {x : Nat} (hd : decode cc pc = .ok (.aload_n n, 1)) (hl : ls[n.val]? = some (.val (.ref x))) (hp : pc + 1 = pc') (g : CW p l e R s m args below meth c Q D A ws cells slots pc' ls (.ref x :: st)) : CW p l e R s m args below meth c Q D A ws cells slots pc ls st := by
  subst hp
  intro H locs h1 h2 h3
  exact lv_aload_n K.1.1 K.1.2.1 hd rfl hl (g H locs h1 h2 h3)
theorem ct_iconst (K : CC p s m args c D T v A own cc nL ls) (pc' : Nat) {n : Int} (x : Int32) (hd : decode cc pc = .ok (.iconst n, 1)) (hv : Int32.ofInt n = x) (hp : pc + 1 = pc') (g : CW p l e R s m args below meth c Q D A ws cells slots pc' ls (.int x :: st)) : CW p l e R s m args below meth c Q D A ws cells slots pc ls st := by
  subst hp
  intro H locs h1 h2 h3
  exact lv_iconst K.1.1 K.1.2.1 hd hv (g H locs h1 h2 h3)
theorem ct_bipush (K : CC p s m args c D T v A own cc nL ls) (pc' : Nat) {n : Int} (x : Int32) (hd : decode cc pc = .ok (.bipush n, 2)) (hv : (Int8.ofInt n).toInt32 = x) (hp : pc + 2 = pc') (g : CW p l e R s m args below meth c Q D A ws cells slots pc' ls (.int x :: st)) : CW p l e R s m args below meth c Q D A ws cells slots pc ls st := by
  subst hp
  intro H locs h1 h2 h3
  exact lv_bipush K.1.1 K.1.2.1 hd hv (g H locs h1 h2 h3)
theorem ct_sipush (K : CC p s m args c D T v A own cc nL ls) (pc' : Nat) {n : Int} (x : Int32) (hd : decode cc pc = .ok (.sipush n, 3)) (hv : (Int16.ofInt n).toInt32 = x) (hp : pc + 3 = pc') (g : CW p l e R s m args below meth c Q D A ws cells slots pc' ls (.int x :: st)) : CW p l e R s m args below meth c Q D A ws cells slots pc ls st := by
  subst hp
  intro H locs h1 h2 h3
  exact lv_sipush K.1.1 K.1.2.1 hd hv (g H locs h1 h2 h3)
theorem ct_dup (K : CC p s m args c D T v A own cc nL ls) (pc' : Nat) {x : Nat} (hd : decode cc pc = .ok (.dup, 1)) (hp : pc + 1 = pc') (g : CW p l e R s m args below meth c Q D A ws cells slots pc' ls (.ref x :: .ref x :: st)) : CW p l e R s m args below meth c Q D A ws cells slots pc ls (.ref x :: st) := by
  subst hp
  intro H locs h1 h2 h3
  exact lv_dup K.1.1 K.1.2.1 hd rfl (g H locs h1 h2 h3)
theorem ct_ldcS (K : CC p s m args c D T v A own cc nL ls) (pc' : Nat) {o i a : Nat} (hm : (o, i, a) ∈ rL) (ho : cnm o = own) (hd : decode cc pc = .ok (.ldc i, 2)) (hp : pc + 2 = pc') (g : CW p l e R s m args below meth c Q D A ws cells slots pc' ls (.ref (v a) :: st)) : CW p l e R s m args below meth c Q D A ws cells slots pc ls st := by
  subst hp
  intro H locs h1 h2 h3
  obtain ⟨tx, hr⟩ := K.2.1.2.2.2 _ hm
  exact va_ldcS (own := cnm o) K.1.1 K.1.2.1 (by rw [ho]; exact K.1.2.2.2.1) hr hd (g H locs h1 h2 h3)
theorem ct_obj (K : CC p s m args c D T v A own cc nL ls) (pc' : Nat) {idx x : Nat} (hl : Cond.methodLink own idx Lib.objectInit ∈ gT) (hi : Cond.instanceMethod Lib.objectInit ∈ gT) (hc : Cond.code Lib.objectInit ⟨#[0xb1]⟩ 1 none ∈ gT) (hd : decode cc pc = .ok (.invokespecial idx, 3)) (hp : pc + 3 = pc') (h1 : 1 ≤ R.frames) (h2 : 12 ≤ R.locals) (g : CW p l e R s m args below meth c Q D A ws cells slots pc' ls []) : CW p l e R s m args below meth c Q D A ws cells slots pc ls [.ref x] := by
  subst hp
  intro H locs g1 g2 g3
  exact W.objInit K.1.1 K.1.2.1 K.1.2.2.2.1 (K.1.2.2.2.2 _ hl) (K.1.2.2.2.2 _ hi) (K.1.2.2.2.2 _ hc) rfl (by rw [K.1.2.2.1]; exact K.2.2.2) rfl hd h1 h2 (g H locs g1 g2 g3)
theorem ct_newa (K : CC p s m args c D T v A own cc nL ls) (pc' : Nat) {atype : ArrayType} {ty : FieldType} {n : Int32} {N t0 : Nat} {a0 : vp_A} (hd : decode cc pc = .ok (.newarray atype, 2)) (hty : newarray.typeOf atype = ty) (ht : (tyT T)[t0]? = some (T t0, ty)) (hRA : ∀ (U : State) (cA : ClassId), va_RA U cA ty = (U.vm.findClass ("[" ++ ty.toString) = some cA)) (harr : Cond.arrayClass ty ∈ gT) (ha : ∀ cA : ClassId, vp_cell cA a0 = arrV cA N (fun _ => defaultValue ty)) (hn : ¬ n < 0) (hN : n.toNatClampNeg = N) (hbytes : N * componentBytes ty ≤ 536870912) (hp : pc + 2 = pc') (h1 : cells + 1 ≤ R.cells) (h2 : slots + N ≤ R.slots)
    (g : ∀ q : Nat, CW p l e R s m args below meth c Q D A (ws ++ [(q, .inl (T t0, a0))]) (cells + 1) (slots + N) pc' ls (.ref q :: st)) : CW p l e R s m args below meth c Q D A ws cells slots pc ls (.int n :: st) := by
  subst hp
  intro H locs g1 g2 g3
  refine va_newa K.1.1 K.1.2.1 (by rw [hty]; exact K.1.2.2.2.2 _ harr) hty K.2.1.1 g1 g2 g3 K.2.2.1 ha hn hN hbytes h1 h2 hd (fun q cA H1 hK hP hD hS => ?_)
  have e1 := (K.2.1.1.2 t0 _ ht).2
  have e2 := (hK.2 5 (cA, ty) rfl).2
  rw [hRA] at e1 e2
  have e3 : T t0 = cA := Option.some.inj (e1.symm.trans e2)
  subst e3
  exact g q H1 locs hP hD hS
theorem ct_mna (K : CC p s m args c D T v A own cc nL ls) (pc' : Nat) {n k : Int32} (N K2 : Nat) {index : Nat} (hcl : Cond.classLink own index ("[" ++ (FieldType.array .int).toString) ∈ gT) (harr : Cond.arrayClass .int ∈ gT) (hd : decode cc pc = .ok (.multianewarray index 2, 4)) (hn : ¬ n < 0) (hk : ¬ k < 0) (hN : n.toNatClampNeg = N) (hK : k.toNatClampNeg = K2) (hb1 : N * 4 ≤ 536870912) (hb2 : K2 * 4 ≤ 536870912) (hp : pc + 4 = pc') (h1 : cells + (1 + N) ≤ R.cells) (h2 : slots + (N + N * K2) ≤ R.slots)
    (g : ∀ (q : Nat) (r : Nat → Nat), CW p l e R s m args below meth c Q D A (ws ++ ((q, .inl (T 4, N, .inr (.inr (.inr (.inr (fun i => if i < N then some (r i) else none)))))) :: (List.range N).map (fun i => (r i, .inl (T 0, K2, .inl (fun _ => Int32.ofInt 0)))))) (cells + 1 + N) (slots + N + N * K2) pc' ls (.ref q :: st)) : CW p l e R s m args below meth c Q D A ws cells slots pc ls (.int k :: .int n :: st) := by
  subst hp
  intro H locs g1 g2 g3
  refine W_mna K.1.1 K.1.2.1 K.1.2.2.2.1 (K.1.2.2.2.2 _ hcl) K.2.1.2.1 (K.1.2.2.2.2 _ harr) hn hk hN hK hb1 hb2 h1 h2 hd (fun H1 cA cy e1 e2 z1 o1 f1 f2 => ?_)
  have d1 : s.vm.findClass ("[" ++ (FieldType.array .int).toString) = some (T 4) := (K.2.1.1.2 4 _ rfl).2
  have d2 : s.vm.findClass ("[" ++ FieldType.int.toString) = some (T 0) := (K.2.1.1.2 0 _ rfl).2
  have e3 : T 4 = cA := Option.some.inj (d1.symm.trans e1)
  have e4 : T 0 = cy := Option.some.inj (d2.symm.trans e2)
  subst e3
  subst e4
  have hk : ∀ (k : Nat) (x : Nat × va_E), ws[k]? = some x → H1[x.1]? = H[x.1]? := fun k x hx => o1 x.1 ((g1 k x hx).lt)
  have lt1 : ∀ x ∈ ws, x.1 < H.size := fun x hx => (va_P_mem.mp g1 x hx).lt
  refine g H.size (fun i => H.size + 1 + i) H1 locs ?_ ?_ ⟨Nat.le_trans g3.1 (by omega), fun x q1 q2 => (o1 x (Nat.lt_of_lt_of_le q1 g3.1)).trans (g3.2.1 x q1 q2), g3.2.2⟩
  · refine (g1.kept hk).app (va_P_mem.mpr fun x hx => ?_)
    rcases List.mem_cons.mp hx with rfl | hx
    · show H1[H.size]? = some (vp_cell _ _)
      rw [f1, vp_cell_q]
    · obtain ⟨i, hi, rfl⟩ := List.mem_map.mp hx
      show H1[H.size + 1 + i]? = some (vp_cell _ _)
      rw [f2 i (List.mem_range.mp hi)]
      rfl
  · obtain ⟨p1, p2⟩ := va_D_mem.mp g2
    refine va_D_mem.mpr ⟨List.pairwise_append.mpr ⟨p1, List.pairwise_cons.mpr ⟨fun x hx => ?_, ?_⟩, fun x hx y hy => ?_⟩, fun x hx => ?_⟩
    · obtain ⟨i, hi, rfl⟩ := List.mem_map.mp hx
      show H.size ≠ H.size + 1 + i
      omega
    · refine List.pairwise_map.mpr (List.Pairwise.imp ?_ List.nodup_range)
      intro a b hab
      show H.size + 1 + a ≠ H.size + 1 + b
      omega
    · have := lt1 x hx
      rcases List.mem_cons.mp hy with rfl | hy
      · show x.1 ≠ H.size
        omega
      · obtain ⟨i, hi, rfl⟩ := List.mem_map.mp hy
        show x.1 ≠ H.size + 1 + i
        omega
    · rcases List.mem_append.mp hx with hx | hx
      · exact p2 x hx
      · rcases List.mem_cons.mp hx with rfl | hx
        · exact K.2.2.1 _ g3.1
        · obtain ⟨i, hi, rfl⟩ := List.mem_map.mp hx
          exact K.2.2.1 _ (Nat.le_trans g3.1 (by show H.size ≤ H.size + 1 + i; omega))
theorem ct_new (K : CC p s m args c D T v A own cc nL ls) (pc' ci : Nat) (fs : List Value) {index : Nat} (hc : ci < 13) (hcl : Cond.classLink own index (mcl.getD ci dC0).1 ∈ gT) (hin : Cond.instantiable (mcl.getD ci dC0).1 (nF ci) ∈ gT) (hini : Cond.initialized (mcl.getD ci dC0).1 ∈ gT) (hd : decode cc pc = .ok (.new index, 3)) (hfs : ∀ j, j < nF ci → defaultValue ((mty.getD ci (fun _ => .int)) j) = vp_V fs j) (hp : pc + 3 = pc') (h1 : cells + 1 ≤ R.cells) (h2 : slots + nF ci ≤ R.slots)
    (g : ∀ q : Nat, CW p l e R s m args below meth c Q D A (ws ++ [(q, .inr (ci, fs))]) (cells + 1) (slots + nF ci) pc' ls (.ref q :: st)) : CW p l e R s m args below meth c Q D A ws cells slots pc ls st := by
  subst hp
  intro H locs g1 g2 g3
  exact va_new (T := (mcl.getD ci dC0).2.1) (N := (mcl.getD ci dC0).2.2) (C := (mcl.getD ci dC0).1) K.1.1 K.1.2.1 K.1.2.2.2.2 (fun q hq => ok_u _ (mcl_in hc) q hq) (mty.getD ci (fun _ => .int)) (fd_ok hc rfl).1 K.1.2.2.2.1 (K.1.2.2.2.2 _ hcl) (K.1.2.2.2.2 _ hin) (K.1.2.2.2.2 _ hini) K.2.1.1 g1 g2 g3 K.2.2.1 (mcl_get hc) hfs h1 h2 hd (fun q H1 hP hD hS => g q H1 locs hP hD hS)
theorem ct_fl (K : CC p s m args c D T v A own cc nL ls) {o idx ci k : Nat} (hm : (o, idx, ci, k) ∈ fL) (ho : cnm o = own) (hc : ci < 13) : (Jvm.Cond.fieldLink own idx ((mcl.getD ci dC0).2.1 k).1 ((mcl.getD ci dC0).2.1 k).2.1 ((mcl.getD ci dC0).2.1 k).2.2.1).before args s = true := by
  have hlk := K.1.2.2.2.2 _ (ok_f _ (List.mem_map.mpr ⟨_, hm, rfl⟩))
  have e : fdf ci k = (((mcl.getD ci dC0).2.1 k).1, ((mcl.getD ci dC0).2.1 k).2.1, ((mcl.getD ci dC0).2.1 k).2.2.1) := by
    unfold fdf
    rw [if_neg (by omega)]
    rfl
  unfold fW at hlk
  dsimp only at hlk
  rw [e, ho] at hlk
  exact hlk
theorem ct_put (K : CC p s m args c D T v A own cc nL ls) (hname : meth.name = "<init>") (pc' : Nat) {o idx ci k h0 : Nat} {fs fs' : List Value} {x : Value} (hm : (o, idx, ci, k) ∈ fL) (ho : cnm o = own) (hc : ci < 13) (hk : k < nF ci) (hown : ((mcl.getD ci dC0).2.1 k).1 = own) (hn : narrow ((mty.getD ci (fun _ => .int)) k) x = x) (hfit : fits ((mty.getD ci (fun _ => .int)) k) x = true) (hl : k < fs.length) (he : fs.set k x = fs') (hd : decode cc pc = .ok (.putfield idx, 3)) (hp : pc + 3 = pc')
    (g : CW p l e R s m args below meth c Q D A ((h0, .inr (ci, fs')) :: ws) cells slots pc' ls st) : CW p l e R s m args below meth c Q D A ((h0, .inr (ci, fs)) :: ws) cells slots pc ls (x :: .ref h0 :: st) := by
  subst hp
  subst he
  intro H locs g1 g2 g3
  obtain ⟨f1, f2⟩ := fd_ok hc rfl
  cases hfin : ((mcl.getD ci dC0).2.1 k).2.2.2 with
  | true => exact va_putF (T := (mcl.getD ci dC0).2.1) (N := (mcl.getD ci dC0).2.2) (C := (mcl.getD ci dC0).1) K.1.1 K.1.2.1 K.1.2.2.2.2 (fun q hq => ok_u _ (mcl_in hc) q hq) (mty.getD ci (fun _ => .int)) f1 f2 K.1.2.2.2.1 K.2.1.1 g1 g2 g3 0 rfl (mcl_get hc) k hk (ct_fl K hm ho hc) (fun _ z => z) hfin hname hown (f1 k hk) hn hfit hl hd (fun H1 locs1 hP hD hS => g H1 locs1 hP hD hS)
  | false => exact va_put (T := (mcl.getD ci dC0).2.1) (N := (mcl.getD ci dC0).2.2) (C := (mcl.getD ci dC0).1) K.1.1 K.1.2.1 K.1.2.2.2.2 (fun q hq => ok_u _ (mcl_in hc) q hq) (mty.getD ci (fun _ => .int)) f1 f2 K.1.2.2.2.1 K.2.1.1 g1 g2 g3 0 rfl (mcl_get hc) k hk (ct_fl K hm ho hc) (fun _ z => z) hfin (f1 k hk) hn hfit hl hd (fun H1 locs1 hP hD hS => g H1 locs1 hP hD hS)
theorem ct_putA (K : CC p s m args c D T v A own cc nL ls) (hname : meth.name = "<init>") (pc' : Nat) {o idx ci k h0 : Nat} {fs fs' : List Value} {x : Value} {Z : va_W} (hm : (o, idx, ci, k) ∈ fL) (ho : cnm o = own) (hc : ci < 13) (hk : k < nF ci) (hown : ((mcl.getD ci dC0).2.1 k).1 = own) (hn : narrow ((mty.getD ci (fun _ => .int)) k) x = x) (hfit : fits ((mty.getD ci (fun _ => .int)) k) x = true) (hl : k < fs.length) (he : fs.set k x = fs') (hd : decode cc pc = .ok (.putfield idx, 3)) (hp : pc + 3 = pc')
    (g : CW p l e R s m args below meth c Q D A ((h0, .inr (ci, fs')) :: (ws ++ Z)) cells slots pc' ls st) : CW p l e R s m args below meth c Q D A (((h0, .inr (ci, fs)) :: ws) ++ Z) cells slots pc ls (x :: .ref h0 :: st) := by
  subst hp
  subst he
  intro H locs g1 g2 g3
  obtain ⟨f1, f2⟩ := fd_ok hc rfl
  cases hfin : ((mcl.getD ci dC0).2.1 k).2.2.2 with
  | true => exact va_putF (T := (mcl.getD ci dC0).2.1) (N := (mcl.getD ci dC0).2.2) (C := (mcl.getD ci dC0).1) K.1.1 K.1.2.1 K.1.2.2.2.2 (fun q hq => ok_u _ (mcl_in hc) q hq) (mty.getD ci (fun _ => .int)) f1 f2 K.1.2.2.2.1 K.2.1.1 g1 g2 g3 0 rfl (mcl_get hc) k hk (ct_fl K hm ho hc) (fun _ z => z) hfin hname hown (f1 k hk) hn hfit hl hd (fun H1 locs1 hP hD hS => g H1 locs1 hP hD hS)
  | false => exact va_put (T := (mcl.getD ci dC0).2.1) (N := (mcl.getD ci dC0).2.2) (C := (mcl.getD ci dC0).1) K.1.1 K.1.2.1 K.1.2.2.2.2 (fun q hq => ok_u _ (mcl_in hc) q hq) (mty.getD ci (fun _ => .int)) f1 f2 K.1.2.2.2.1 K.2.1.1 g1 g2 g3 0 rfl (mcl_get hc) k hk (ct_fl K hm ho hc) (fun _ z => z) hfin (f1 k hk) hn hfit hl hd (fun H1 locs1 hP hD hS => g H1 locs1 hP hD hS)
theorem ct_get (K : CC p s m args c D T v A own cc nL ls) (pc' : Nat) {o idx ci k h0 : Nat} {fs : List Value} {x : Value} (hm : (o, idx, ci, k) ∈ fL) (ho : cnm o = own) (hc : ci < 13) (hk : k < nF ci) (hx : fs[k]? = some x) (hd : decode cc pc = .ok (.getfield idx, 3)) (hp : pc + 3 = pc')
    (g : CW p l e R s m args below meth c Q D A ((h0, .inr (ci, fs)) :: ws) cells slots pc' ls (x :: st)) : CW p l e R s m args below meth c Q D A ((h0, .inr (ci, fs)) :: ws) cells slots pc ls (.ref h0 :: st) := by
  subst hp
  intro H locs g1 g2 g3
  exact va_get (T := (mcl.getD ci dC0).2.1) (N := (mcl.getD ci dC0).2.2) (C := (mcl.getD ci dC0).1) K.1.1 K.1.2.1 K.1.2.2.2.2 (fun q hq => ok_u _ (mcl_in hc) q hq) K.1.2.2.2.1 K.2.1.1 g1 0 rfl (mcl_get hc) k hk (ct_fl K hm ho hc) (fun _ z => z) hx hd (g H locs g1 g2 g3)
theorem ct_getA (K : CC p s m args c D T v A own cc nL ls) (pc' : Nat) {o idx ci k h0 : Nat} {fs : List Value} {x : Value} {Z : va_W} (hm : (o, idx, ci, k) ∈ fL) (ho : cnm o = own) (hc : ci < 13) (hk : k < nF ci) (hx : fs[k]? = some x) (hd : decode cc pc = .ok (.getfield idx, 3)) (hp : pc + 3 = pc')
    (g : CW p l e R s m args below meth c Q D A (((h0, .inr (ci, fs)) :: ws) ++ Z) cells slots pc' ls (x :: st)) : CW p l e R s m args below meth c Q D A (((h0, .inr (ci, fs)) :: ws) ++ Z) cells slots pc ls (.ref h0 :: st) := by
  subst hp
  intro H locs g1 g2 g3
  exact va_get (T := (mcl.getD ci dC0).2.1) (N := (mcl.getD ci dC0).2.2) (C := (mcl.getD ci dC0).1) K.1.1 K.1.2.1 K.1.2.2.2.2 (fun q hq => ok_u _ (mcl_in hc) q hq) K.1.2.2.2.1 K.2.1.1 g1 0 rfl (mcl_get hc) k hk (ct_fl K hm ho hc) (fun _ z => z) hx hd (g H locs g1 g2 g3)
theorem CtP_blind (h0 ci : Nat) (fs0 as : List Value) : FrameBlind (CtP D T v A h0 ci fs0 as ws) := by
  intro a U g mk ⟨h1, h2, h3, h4, h5⟩
  exact ⟨h1, h2, h3, VBs.same (u := U) rfl h4, h5⟩
theorem perm_in (X : va_W) (x : Nat × va_E) : (X ++ [x]).Perm (x :: X) := by
  have := List.perm_middle (a := x) (l₁ := X) (l₂ := [])
  rw [List.append_nil] at this
  exact this
theorem perm_out (X Y : va_W) (x : Nat × va_E) : (x :: (X ++ Y)).Perm (X ++ (x :: Y)) := List.perm_middle.symm
theorem ct_go {y : MethodName} {q ci mc ms d : Nat} {bytes : ByteArray} {nL2 : Nat} {fs0 as rest : List Value} {fs : US → List Value} {nw : US → va_W} {pc' : Nat} (K : CC p s m args c D T v A own cc nL ls) (hp : pc + 3 = pc')
    (hr : ∀ (H : Heap) (locs : List Loc), va_P D mcl ((q, .inr (ci, fs0)) :: ws) H → va_D A ((q, .inr (ci, fs0)) :: ws) → va_S A s.heap H locs → va_Run p l e R s m args below meth c H locs cells slots mc ms (F0 m pc ls (as.reverse ++ .ref q :: rest)) rest (CtQ D A q ci fs ws nw (Value.ref q :: as).toArray) A)
    (g : ∀ u : US, CW p l e R s m args below meth c Q D A (ws ++ ((q, .inr (ci, fs u)) :: nw u)) (cells + mc) (slots + ms) pc' ls rest) : CW p l e R s m args below meth c Q D A (ws ++ [(q, .inr (ci, fs0))]) cells slots pc ls (as.reverse ++ .ref q :: rest) := by
  subst hp
  intro H locs g1 g2 g3
  have p1 := va_P_perm (perm_in ws _) g1
  have p2 := va_D_perm (perm_in ws _) g2
  intro T0 hT X
  obtain ⟨v0, st₀, t, T', L, h0, X', hL, e1, e2, ⟨hv, ⟨hz, hk⟩, u, hP, hD⟩, stp⟩ := hr H locs p1 p2 g3 T0 hT X
  cases hv
  rw [h0] at hz hk
  have hS : va_S A s.heap T'.heap (locs ++ L) := ⟨Nat.le_trans g3.1 (by rw [e1]; exact hz), fun x q1 q2 => by rw [e1, hk x (Nat.lt_of_lt_of_le q1 g3.1) q2]; exact g3.2.1 x q1 q2, fun x hx => by
    rcases List.mem_append.mp hx with h | h
    · exact g3.2.2 x h
    · exact hL x h⟩
  obtain ⟨t2, a1, b1⟩ := g u T'.heap (locs ++ L) (by rw [e1]; exact va_P_perm (perm_out ws (nw u) _) hP) (va_D_perm (perm_out ws (nw u) _) hD) hS T' rfl X'
  exact ⟨t2, stp t2 a1, b1⟩
theorem ct_call {y : MethodName} {q ci mc ms d idx n : Nat} {bytes : ByteArray} {nL2 : Nat} {fs0 as rest : List Value} {fs : US → List Value} {nw : US → va_W} (K : CC p s m args c D T v A own cc nL ls) (pc' : Nat)
    (hM : ∀ ws, Met l y (Cond.code y bytes nL2 none :: gT) (rmC d mc ms) (CtP D T v A q ci fs0 as ws) (CtQ D A q ci fs ws nw) mc ms A)
    (hcode : Cond.code y bytes nL2 none ∈ gT) (hini : Cond.initialized y.cls ∈ gT) (hlk : Cond.methodLink own idx y ∈ gT) (him : Cond.instanceMethod y ∈ gT) (hy : y.name = "<init>") (hdc : y.cls ≠ "java/lang/invoke/MethodHandle" ∧ y.cls ≠ "java/lang/invoke/VarHandle" ∧ (parseMethodDescriptor y.desc).map (fun d => d.parameters.length) = some n) (hn : as.length = n) (hnl : nL2 ≤ 3) (hd : decode cc pc = .ok (.invokespecial idx, 3)) (hp : pc + 3 = pc') (hrest : (rest.map fun v => v.category).sum ≤ 8) (hf : d + 1 ≤ R.frames) (hlo : 60 * d + 22 ≤ R.locals) (h1 : cells + mc ≤ R.cells) (h2 : slots + ms ≤ R.slots)
    (g : ∀ u : US, CW p l e R s m args below meth c Q D A (ws ++ ((q, .inr (ci, fs u)) :: nw u)) (cells + mc) (slots + ms) pc' ls rest) : CW p l e R s m args below meth c Q D A (ws ++ [(q, .inr (ci, fs0))]) cells slots pc ls (as.reverse ++ .ref q :: rest) := by
  have hG : GoodIn gT (Cond.code y bytes nL2 none :: gT) := by
    intro w hw
    have hm : w ∈ gT := by
      rcases List.mem_cons.mp hw with e | e
      · rw [e]; exact hcode
      · exact e
    exact ⟨hm, good_of_word (List.mem_filter.mp hm).2⟩
  refine ct_go (y := y) (bytes := bytes) (nL2 := nL2) (d := d) K hp (fun H locs p1 p2 g3 => ?_) g
  refine va_runI (b := q) (As := as) K.1 (hM ws) (cwI n K.1.2.2.2.2 hG rfl rfl rfl (K.1.2.2.2.2 _ hini) (K.1.2.2.2.2 _ hlk) (K.1.2.2.2.2 _ him) hy hdc ⟨hf, by show 8 + (nL2 + 11) + 60 * d ≤ R.locals; omega⟩) ⟨CtP_blind q ci fs0 as, fun U hU hW => ⟨rfl, by rw [hU]; exact p1, p2, VBs.warm hW K.2.1, fun x hx => K.2.2.1 x (Nat.le_trans g3.1 (by rw [← hU]; exact hx))⟩⟩ rfl hn K.2.2.2 rfl (by show 2 * 0 + _ ≤ 8; omega) hd ⟨h1, h2⟩
theorem ct_callN {q ci mc ms d idx k : Nat} {bytes : ByteArray} {fs0 rest : List Value} {fs : US → List Value} {nw : US → va_W} (K : CC p s m args c D T v A own cc nL ls) (pc' : Nat)
    (hM : ∀ ws, Met l (nwY k) (Cond.code (nwY k) bytes 1 none :: gT) (rmC d mc ms) (CtP D T v A q ci fs0 [] ws) (CtQ D A q ci fs ws nw) mc ms A)
    (hcode : Cond.code (nwY k) bytes 1 none ∈ gT) (hini : Cond.initialized (nwY k).cls ∈ gT) (hlk : (own, idx, k) ∈ nwL) (him : Cond.instanceMethod (nwY k) ∈ gT) (hcls : (nwY k).cls ≠ "java/lang/invoke/MethodHandle" ∧ (nwY k).cls ≠ "java/lang/invoke/VarHandle" ∧ (parseMethodDescriptor (nwY k).desc).map (fun d => d.parameters.length) = some 0) (hd : decode cc pc = .ok (.invokespecial idx, 3)) (hp : pc + 3 = pc') (hrest : (rest.map fun v => v.category).sum ≤ 8) (hf : d + 1 ≤ R.frames) (hlo : 60 * d + 22 ≤ R.locals) (h1 : cells + mc ≤ R.cells) (h2 : slots + ms ≤ R.slots)
    (g : ∀ u : US, CW p l e R s m args below meth c Q D A (ws ++ ((q, .inr (ci, fs u)) :: nw u)) (cells + mc) (slots + ms) pc' ls rest) : CW p l e R s m args below meth c Q D A (ws ++ [(q, .inr (ci, fs0))]) cells slots pc ls (.ref q :: rest) := by
  have hG : GoodIn gT (Cond.code (nwY k) bytes 1 none :: gT) := by
    intro w hw
    have hm : w ∈ gT := by
      rcases List.mem_cons.mp hw with e | e
      · rw [e]; exact hcode
      · exact e
    exact ⟨hm, good_of_word (List.mem_filter.mp hm).2⟩
  refine ct_go (y := nwY k) (bytes := bytes) (nL2 := 1) (d := d) (as := []) K hp (fun H locs p1 p2 g3 => ?_) g
  refine va_runIN (b := q) (As := []) K.1 (hM ws) ⟨va_cnB 0 K.1.2.2.2.2 hG rfl rfl rfl (K.2.1.2.2.1 _ hlk) (K.1.2.2.2.2 _ hini) hcls ⟨hf, by show 8 + (1 + 11) + 60 * d ≤ R.locals; omega⟩, rfl, K.1.2.2.2.2 _ him⟩ ⟨CtP_blind q ci fs0 [], fun U hU hW => ⟨rfl, by rw [hU]; exact p1, p2, VBs.warm hW K.2.1, fun x hx => K.2.2.1 x (Nat.le_trans g3.1 (by rw [← hU]; exact hx))⟩⟩ rfl rfl K.2.2.2 rfl (by show 2 * 0 + _ ≤ 8; omega) hd ⟨h1, h2⟩
/-- a constructor's body gives its contract -/
theorem ct_met {y : MethodName} {h0 ci mc ms d : Nat} {fs0 as : List Value} {fs : US → List Value} {nw : US → va_W} (hy : plainName y.cls = true) (hyn : y.name = "<init>") (hlen : (lg_sl (Value.ref h0 :: as)).length ≤ nL)
    (k : ∀ (p : Program) (e : Env) (s : State) (m : MethodId) (args : Array Value) (below : List Frame) (meth : Method) (c : Code) (ls : Array Slot), CC p s m args c D T v A y.cls cc nL ls → meth.name = "<init>" → lv_has ls nL (lv_args 0 (Value.ref h0 :: as)) →
      (∀ (u : US) (pc : Nat) (X : va_W), X = (h0, .inr (ci, fs u)) :: (ws ++ nw u) → decode cc pc = .ok (.return_, 1) → CW p l e (rmC d mc ms) s m args below meth c (MQ below (CtQ D A h0 ci fs ws nw) args s mc ms A) D A X mc ms pc ls []) →
      CW p l e (rmC d mc ms) s m args below meth c (MQ below (CtQ D A h0 ci fs ws nw) args s mc ms A) D A ((h0, .inr (ci, fs0)) :: ws) 0 0 0 ls []) :
    Met l y (Cond.code y cc nL none :: gT) (rmC d mc ms) (CtP D T v A h0 ci fs0 as ws) (CtQ D A h0 ci fs ws nw) mc ms A := by
  refine Met.ofW (cc := cc) (maxL := nL) (ret := none) hy rfl ?_
  intro p e s m args below meth c s₁ B hml hPc
  obtain ⟨rfl, hP, hD, hV, hA⟩ := hPc
  have hts : ∀ q ∈ Cond.code y cc nL none :: gT, q.before ((Value.ref h0 :: as).toArray) s = true := atoms_spec (ws := Cond.code y cc nL none :: gT) B.pre
  have hown : s.vm.findClass y.cls = some m.cls := findClass_of_methodNamed B.named
  have hin : meth.name = "<init>" := by rw [(name_of_methodNamed B.named B.method).1]; exact hyn
  have hl := lv_entry (Value.ref h0 :: as) hlen
  rw [lg_entry_eq]
  refine k p e s m _ below meth c _ ⟨⟨B.exec, B.bytes, hml, hown, fun q hq => hts q (List.mem_cons_of_mem _ hq)⟩, hV, hA, hl.1⟩ hin hl (fun u pc X hX hd H locs g1 g2 g3 => ?_) s.heap [] hP hD va_S.rf
  subst hX
  exact W.vret B.exec B.bytes B.returns (fun t ht hW => ⟨rfl, g3.F ht, u, by rw [ht]; exact g1, g2⟩) g3.2.2 hd (hlocks := B.notSynchronized)
end CTR
