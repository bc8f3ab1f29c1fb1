/-! the law's entry: what is known there -/
theorem ao_spec {args : Array Value} {s : State} (h : (Cond.arrayOver (.array .int)).before args s = true) : ∃ (comp c : ClassId) (k : Class), s.vm.classes[c]? = some k ∧ k.kind = .array comp (.array .int) ∧ s.vm.findClass ("[" ++ (FieldType.array .int).toString) = some c := by
  simp only [Cond.before, Cond.holds, Cond.value, beq_iff_eq, Option.bind_eq_some_iff, Option.map_eq_some_iff] at h
  obtain ⟨comp, -, c, hi, k, hk, hb⟩ := h
  cases hkd : k.kind with
  | array c2 ty =>
    rw [hkd] at hb
    simp only [Bool.and_eq_true, decide_eq_true_eq] at hb
    obtain ⟨rfl, h2⟩ := hb
    exact ⟨c2, c, k, hk, hkd, h2⟩
  | _ => rw [hkd] at hb; cases hb
theorem arr_at {s : State} {c comp : ClassId} {k : Class} {ty : FieldType} (h1 : s.vm.classes[c]? = some k) (h2 : k.kind = .array comp ty) : ArrOfT s c ty := fun _ _ => ⟨fun _ h => (by cases h), k, h1, comp, h2⟩
theorem ins_gT : ∀ c, c < 13 → Cond.instantiable (mcl.getD c dC0).1 (nF c) ∈ lw_tbl ∧ goodWord (Cond.instantiable (mcl.getD c dC0).1 (nF c)) = true := by decide +kernel
theorem kn_start {args : Array Value} {s : State} (hts : ∀ w ∈ lw_tbl, w.before args s = true) : ∃ (D : va_G) (T : Nat → ClassId), va_K D mcl (tyT T) s := by
  have htsG : ∀ w ∈ gT, w.before args s = true := fun w hw => hts w (List.mem_filter.mp hw).1
  have hc : ∀ c : Nat, ∃ (cC : ClassId) (iS : Nat → Nat), c < 13 → u_Kn s (mcl.getD c dC0).1 (mcl.getD c dC0).2.1 (mcl.getD c dC0).2.2 cC iS := by
    intro c
    by_cases q : c < 13
    · obtain ⟨cC, iS, hk⟩ := u_known (C := (mcl.getD c dC0).1) (T := (mcl.getD c dC0).2.1) (N := (mcl.getD c dC0).2.2) (n := nF c) htsG (fun w hw => ok_u _ (mcl_in q) w hw) (hts _ (ins_gT c q).1)
      exact ⟨cC, iS, fun _ => hk⟩
    · exact ⟨0, fun _ => 0, fun h => absurd h q⟩
  obtain ⟨c0, k0, p0, a0, b0, d0⟩ := Cond.arrayClass_spec (show (Cond.arrayClass .int).holds args s none s [] = true from hts _ (by decide +kernel))
  obtain ⟨c1, k1, p1, a1, b1, d1⟩ := Cond.arrayClass_spec (show (Cond.arrayClass .byte).holds args s none s [] = true from hts _ (by decide +kernel))
  obtain ⟨c2, k2, p2, a2, b2, d2⟩ := Cond.arrayClass_spec (show (Cond.arrayClass .boolean).holds args s none s [] = true from hts _ (by decide +kernel))
  obtain ⟨c3, k3, p3, a3, b3, d3⟩ := Cond.arrayClass_spec (show (Cond.arrayClass .long).holds args s none s [] = true from hts _ (by decide +kernel))
  obtain ⟨p4, c4, k4, b4, d4, a4⟩ := ao_spec (hts (Cond.arrayOver (.array .int)) (by decide +kernel))
  refine ⟨(fun c => (hc c).choose, fun c => (hc c).choose_spec.choose), fun k => if k = 0 then c0 else if k = 1 then c1 else if k = 2 then c2 else if k = 3 then c3 else c4, fun c q hq => ?_, fun k q hq => ?_⟩
  · have hl : c < 13 := by
      have := (List.getElem?_eq_some_iff.mp hq).1
      rw [mcl_len] at this
      exact this
    rw [mcl_get hl] at hq
    cases hq
    exact (hc c).choose_spec.choose_spec hl
  · match k, hq with
    | 0, hq => cases hq; exact ⟨arr_at b0 d0, a0⟩
    | 1, hq => cases hq; exact ⟨arr_at b1 d1, a1⟩
    | 2, hq => cases hq; exact ⟨arr_at b2 d2, a2⟩
    | 3, hq => cases hq; exact ⟨arr_at b3 d3, a3⟩
    | 4, hq => cases hq; exact ⟨arr_at b4 d4, a4⟩
    | k + 5, hq => simp [tyT] at hq
theorem nw_tb : ∀ e ∈ nwL, nwC e ∈ lw_tbl := by decide +kernel
theorem xb_lw : ∀ w ∈ xbL, w ∈ lw_tbl := by decide +kernel
theorem xe_w1 : Cond.instantiable "CannonPost" 15 ∈ lw_tbl ∧ Cond.stringRef "CannonPost" 183 "no such carrier" ∈ lw_tbl ∧ Cond.stringRef "CannonPost" 194 "no such thing of a carrier" ∈ lw_tbl := by decide +kernel
theorem xe_w2 : Cond.laysStatic Bundle.tN "UNASSIGNED_STACK" Bundle.steD ∈ lw_tbl ∧ Cond.laysStatic Bundle.tN "SUPPRESSED_SENTINEL" Bundle.listD ∈ lw_tbl ∧ Cond.initialized Bundle.tN ∈ lw_tbl := by decide +kernel
theorem xe_w3 : Cond.isRef (.static Bundle.tN "UNASSIGNED_STACK" Bundle.steD) ∈ fCs ∧ Cond.isRef (.static Bundle.tN "SUPPRESSED_SENTINEL" Bundle.listD) ∈ fCs := by decide +kernel
theorem xe_start {p : Program} {s : State} {m : MethodId} {meth : Method} {c : Code} {b L : Nat} {xs : Nat → Int32} (C0 : lw_At p s m meth c b L xs) : ∃ sa : Nat × Nat, XEs (nwA s) sa s s.heap := by
  obtain ⟨hx, hb, hr, hml, hown, hts, hX, hbl, hlocks, hgv⟩ := id C0
  have hs : ∀ c ∈ fCs, c.before #[Value.ref b] s = true := flat_of_before _ hgv
  have hA : ∀ a : Nat, a < s.heap.size → ¬ nwA s a := fun a h q => by
    have : s.heap.size ≤ a := q
    omega
  obtain ⟨cC, kC, hfc, -⟩ := Cond.instantiable_spec (show (Cond.instantiable "CannonPost" 15).holds #[Value.ref b] s none s [] = true from hts _ xe_w1.1)
  obtain ⟨-, -, -, a1, -, -, -, -, -, e1⟩ := Cond.stringRef_spec hfc (show (Cond.stringRef "CannonPost" 183 "no such carrier").holds #[Value.ref b] s none s [] = true from hts _ xe_w1.2.1)
  obtain ⟨-, -, -, a2, -, -, -, -, -, e2⟩ := Cond.stringRef_spec hfc (show (Cond.stringRef "CannonPost" 194 "no such thing of a carrier").holds #[Value.ref b] s none s [] = true from hts _ xe_w1.2.2)
  exact ⟨(a1, a2), fun w hw => va_Nw.of (xb_tab w hw) (hts w (xb_lw w hw)), ⟨_, vk_R.of (hts _ xe_w1.2.1) e1⟩, ⟨_, vk_R.of (hts _ xe_w1.2.2) e2⟩, vx_Zqof (hts _ xe_w2.1) (hts _ xe_w2.2.2) (hs _ xe_w3.1) hA, vx_Zqof (hts _ xe_w2.2.1) (hts _ xe_w2.2.2) (hs _ xe_w3.2) hA⟩
section CTS
variable {p : Program} {l : Launch} {e : Env} {R : Room} {s : State} {m : MethodId} {args : Array Value} {below : List Frame} {meth : Method} {c : Code} {Q : State → Prop} {D : va_G} {T v : Nat → Nat} {A : Nat → Prop} {own : String} {cc : ByteArray} {nL : Nat} {ws : va_W} {cells slots pc : Nat} {ls : Array Slot} {st : List Value}
theorem ct_astore (K : CC p s m args c D T v A own cc nL ls) (pc' : Nat) (n : Fin 4) {i x : Nat} {lv : List (Nat × Value)} (lv' : List (Nat × Value)) (hd : decode cc pc = .ok (.astore_n n, 1)) (hi : (n : Nat) = i) (hl : lv_has ls nL lv) (hn : i < nL) (he : (i, Value.ref x) :: lv.filter (fun q => !(q.1 == i) && !(q.1 + 1 == i && q.2.category == 2)) = lv') (hp : pc + 1 = pc') (g : ∀ ls' : Array Slot, lv_has ls' nL lv' → CW p l e R s m args below meth c Q D A ws cells slots pc' ls' st) : CW p l e R s m args below meth c Q D A ws cells slots pc ls (.ref x :: st) := by
  subst hp
  intro H locs h1 h2 h3
  exact lv_astore_n K.1.1 K.1.2.1 hd hi hl hn he (fun ls' h => g ls' h H locs h1 h2 h3)
theorem ct_istore (K : CC p s m args c D T v A own cc nL ls) (pc' i : Nat) {x : Int32} {lv : List (Nat × Value)} (lv' : List (Nat × Value)) (hd : decode cc pc = .ok (.istore i, 2)) (hl : lv_has ls nL lv) (hn : i < nL) (he : (i, Value.int x) :: lv.filter (fun q => !(q.1 == i) && !(q.1 + 1 == i && q.2.category == 2)) = lv') (hp : pc + 2 = pc') (g : ∀ ls' : Array Slot, lv_has ls' nL lv' → CW p l e R s m args below meth c Q D A ws cells slots pc' ls' st) : CW p l e R s m args below meth c Q D A ws cells slots pc ls (.int x :: st) := by
  subst hp
  intro H locs h1 h2 h3
  exact lv_istore K.1.1 K.1.2.1 hd hl hn he (fun ls' h => g ls' h H locs h1 h2 h3)
end CTS
theorem lw_w1 : (Cond.classLink "CannonPostLaw" 8 "CannonPost" ∈ gT ∧ Cond.instantiable "CannonPost" 15 ∈ gT ∧ Cond.initialized "CannonPost" ∈ gT) ∧ (Cond.code (⟨"CannonPost", "<init>", "()V"⟩ : MethodName) prog_1_method_1_code 1 none ∈ gT ∧ Cond.methodLink "CannonPostLaw" 15 (⟨"CannonPost", "<init>", "()V"⟩ : MethodName) ∈ gT ∧ Cond.instanceMethod (⟨"CannonPost", "<init>", "()V"⟩ : MethodName) ∈ gT) := ⟨⟨gT_of (by decide +kernel) (by decide +kernel), gT_of (by decide +kernel) (by decide +kernel), gT_of (by decide +kernel) (by decide +kernel)⟩, gT_of (by decide +kernel) (by decide +kernel), gT_of (by decide +kernel) (by decide +kernel), gT_of (by decide +kernel) (by decide +kernel)⟩
theorem lw_w2 : (Cond.classLink "CannonPostLaw" 16 "CannonPostModel" ∈ gT ∧ Cond.instantiable "CannonPostModel" 52 ∈ gT ∧ Cond.initialized "CannonPostModel" ∈ gT) ∧ (Cond.code (⟨"CannonPostModel", "<init>", "()V"⟩ : MethodName) prog_14_method_1_code 1 none ∈ gT ∧ Cond.methodLink "CannonPostLaw" 18 (⟨"CannonPostModel", "<init>", "()V"⟩ : MethodName) ∈ gT ∧ Cond.instanceMethod (⟨"CannonPostModel", "<init>", "()V"⟩ : MethodName) ∈ gT) := ⟨⟨gT_of (by decide +kernel) (by decide +kernel), gT_of (by decide +kernel) (by decide +kernel), gT_of (by decide +kernel) (by decide +kernel)⟩, gT_of (by decide +kernel) (by decide +kernel), gT_of (by decide +kernel) (by decide +kernel), gT_of (by decide +kernel) (by decide +kernel)⟩
theorem lw_w3 : Cond.arrayClass .long ∈ gT := gT_of (by decide +kernel) (by decide +kernel)
