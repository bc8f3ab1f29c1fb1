/-! the law's cases -/
abbrev lsH (i : Nat) (z5 z6 : MV) : List MV := [vR 138, vR 0, vR 97, vR 120, .inl (i : Int), z5, z6]
def aV (w : WP) (i c : Nat) : MV := .inl (w.2.2.2.2.1 (i + c))
def pcN (pc c : Nat) : Nat := if c ≤ 5 then pc + 6 else pc + 7
def chA (pc c : Nat) : Bool := decide (fetch nMe pc = some (.aload_n 0, 1)) && decide (fetch nMe (pc + 1) = some (.iload 4, 2)) && (if c ≤ 5 then decide (fetch nMe (pc + 3) = some (.iconst (c : Int), 1)) && decide (fetch nMe (pc + 4) = some (.iadd, 1)) && decide (fetch nMe (pc + 5) = some (.iaload, 1)) else decide (fetch nMe (pc + 3) = some (.bipush (c : Int), 2)) && decide (fetch nMe (pc + 5) = some (.iadd, 1)) && decide (fetch nMe (pc + 6) = some (.iaload, 1)))
def chL : Nat → List Nat → Bool
  | _, [] => true
  | pc, c :: cs => chA pc c && chL (pcN pc c) cs
def pcA : Nat → List Nat → Nat
  | pc, [] => pc
  | pc, c :: cs => pcA (pcN pc c) cs
theorem mk_scr : mk 138 = (112, 0) := by decide +kernel
section LAWC
variable {p : Program} {l : Launch} {e : Env} {R : Room} {s : State} {m : MethodId} {args : Array Value} {below : List Frame} {meth : Method} {c : Code} {cells slots : Nat} {Q : State → Prop} {w : WP} {A : Nat → Prop}
set_option maxRecDepth 100000 in
theorem L_arg (K : LX p R s m args c cells slots w A) {i pc cc : Nat} {z5 z6 : MV} {st : List MV} {h : MH} (hn : i + 7 ≤ w.2.2.2.2.2) (hm : w.2.2.2.2.2 ≤ 2147483647) (hc : cc ≤ 6) (ck : chA pc cc = true) (g : Wt p l e R s m args below meth c cells slots Q w A nMe (pcN pc cc) (lsH i z5 z6) (aV w i cc :: st) h) : Wt p l e R s m args below meth c cells slots Q w A nMe pc (lsH i z5 z6) st h := by
  unfold chA at ck
  unfold pcN at g
  have e1 : wI ((i : Int) + (cc : Int)) = ((i + cc : Nat) : Int) := by rw [wI_ok (by omega) (by omega)]; omega
  have fin : ∀ (q : Nat), fetch nMe q = some (.iaload, 1) → Wt p l e R s m args below meth c cells slots Q w A nMe (q + 1) (lsH i z5 z6) (aV w i cc :: st) h → Wt p l e R s m args below meth c cells slots Q w A nMe q (lsH i z5 z6) (.inl (wI ((i : Int) + (cc : Int))) :: vR 138 :: st) h := by
    intro q hq g2
    refine Wt_wr (fun _ hs hl _ => ?_)
    rw [e1]
    refine L_iald112 K hq mk_scr ⟨by omega, by rw [hl]; omega⟩ rfl ?_
    have e2 : h 138 (((i + cc : Nat) : Int)).toNat = w.2.2.2.2.1 (i + cc) := by
      rw [show (((i + cc : Nat) : Int)).toNat = i + cc by omega]
      exact congrFun hs (i + cc)
    rw [e2]
    exact g2
  by_cases z : cc ≤ 5
  · rw [if_pos z] at ck g
    simp only [Bool.and_eq_true, decide_eq_true_eq] at ck
    obtain ⟨⟨f0, f1⟩, ⟨f2, f3⟩, f4⟩ := ck
    refine L_aload_n K f0 rfl (by decide) rfl ?_
    refine L_iload K f1 rfl rfl ?_
    refine L_iconst K f2 (wI_ok (by omega) (by omega)) rfl ?_
    refine L_iadd K f3 rfl ?_
    exact fin _ f4 g
  · rw [if_neg z] at ck g
    simp only [Bool.and_eq_true, decide_eq_true_eq] at ck
    obtain ⟨⟨f0, f1⟩, ⟨f2, f3⟩, f4⟩ := ck
    have c6 : cc = 6 := by omega
    subst c6
    refine L_aload_n K f0 rfl (by decide) rfl ?_
    refine L_iload K f1 rfl rfl ?_
    refine L_bipush K f2 (v := ((6 : Nat) : Int)) (by decide) rfl ?_
    refine L_iadd K f3 rfl ?_
    exact fin _ f4 g
set_option maxRecDepth 100000 in
theorem L_args (K : LX p R s m args c cells slots w A) {i : Nat} {z5 z6 : MV} {h : MH} (hn : i + 7 ≤ w.2.2.2.2.2) (hm : w.2.2.2.2.2 ≤ 2147483647) : ∀ (cs : List Nat) (pc : Nat) (st : List MV), (∀ x, x ∈ cs → x ≤ 6) → chL pc cs = true → Wt p l e R s m args below meth c cells slots Q w A nMe (pcA pc cs) (lsH i z5 z6) ((cs.map (aV w i)).reverse ++ st) h → Wt p l e R s m args below meth c cells slots Q w A nMe pc (lsH i z5 z6) st h
  | [], pc, st, _, _, g => g
  | cc :: cs, pc, st, hc, ck, g => by
    unfold chL at ck
    rw [Bool.and_eq_true] at ck
    refine L_arg K hn hm (hc cc (List.mem_cons_self ..)) ck.1 (L_args K hn hm cs (pcN pc cc) (aV w i cc :: st) (fun x hx => hc x (List.mem_cons_of_mem _ hx)) ck.2 ?_)
    have e1 : (((cc :: cs).map (aV w i)).reverse ++ st) = ((cs.map (aV w i)).reverse ++ aV w i cc :: st) := by
      rw [List.map_cons, List.reverse_cons, List.append_assoc]
      rfl
    rw [e1] at g
    exact g
theorem ent_i (w : WP) (i : Nat) : ∀ cs : List Nat, ent (cs.map (aV w i)) = cs.map (aV w i)
  | [] => rfl
  | cc :: cs => by
    show aV w i cc :: ent (cs.map (aV w i)) = _
    rw [ent_i w i cs]
    rfl
set_option maxRecDepth 100000 in
theorem L_call (K : LX p R s m args c cells slots w A) {i pc pc' a k2 ic : Nat} {z5 z6 : MV} {rest : List MV} {h h2 : MH} {v : Int} {cs : List Nat} (hf : fetch nMe pc = some (.invokevirtual ic, 3)) (hs : vl 19 ic = some (k2, cs.length)) (hl : cs.length + 1 ≤ mL k2) (hk : (mk a).1 = mO k2) (hp : pc + 3 = pc') (hc : cats rest ≤ 8) (hr : Run 40 k2 0 (entry k2 (vR a :: cs.map (aV w i))) [] h = some (some (.inl v), h2)) (g : Wt p l e R s m args below meth c cells slots Q w A nMe pc' (lsH i z5 z6) (.inl v :: rest) h2) : Wt p l e R s m args below meth c cells slots Q w A nMe pc (lsH i z5 z6) ((cs.map (aV w i)).reverse ++ vR a :: rest) h := by
  have ln : ((cs.map (aV w i)).reverse).length = cs.length := by rw [List.length_reverse, List.length_map]
  have o19 : mO nMe = 19 := by decide +kernel
  refine L_vcall K hf o19 hs ?_ ?_ ?_ hc ?_ hk hp hr g
  · rw [List.length_append, ln]; omega
  · rw [← ln, List.take_left, List.reverse_reverse]
  · rw [← ln, List.drop_left]
  · show (ent (vR a :: cs.map (aV w i))).length ≤ mL k2
    have e1 : ent (vR a :: cs.map (aV w i)) = vR a :: ent (cs.map (aV w i)) := rfl
    rw [e1, ent_i, List.length_cons, List.length_map]
    exact hl
def chC (pc : Nat) (cs : List Nat) (ic im : Nat) (q : Int) : Bool := decide (fetch nMe pc = some (.aload_n 1, 1)) && chL (pc + 1) cs && decide (fetch nMe (pcA (pc + 1) cs) = some (.invokevirtual ic, 3)) && decide (fetch nMe (pcA (pc + 1) cs + 3) = some (.aload_n 2, 1)) && chL (pcA (pc + 1) cs + 4) cs && decide (fetch nMe (pcA (pcA (pc + 1) cs + 4) cs) = some (.invokevirtual im, 3)) && decide (fetch nMe (pcA (pcA (pc + 1) cs + 4) cs + 3) = some (.if_icmp .eq q, 3)) && decide (((pcA (pcA (pc + 1) cs + 4) cs + 3 : Nat) : Int) + q = 2098)
set_option maxRecDepth 100000 in
theorem L_case (K : LX p R s m args c cells slots w A) {i pc kc km ic im : Nat} {z5 z6 : MV} {h h1 h2 : MH} {v q : Int} {cs : List Nat} (hn : i + 7 ≤ w.2.2.2.2.2) (hm : w.2.2.2.2.2 ≤ 2147483647) (hc : ∀ x, x ∈ cs → x ≤ 6) (ck : chC pc cs ic im q = true) (sc : vl 19 ic = some (kc, cs.length)) (sm : vl 19 im = some (km, cs.length)) (lc : cs.length + 1 ≤ mL kc) (lm : cs.length + 1 ≤ mL km) (oc : mO kc = (mk 0).1) (om : mO km = (mk 97).1) (rc : Run 40 kc 0 (entry kc (vR 0 :: cs.map (aV w i))) [] h = some (some (.inl v), h1)) (rm : Run 40 km 0 (entry km (vR 97 :: cs.map (aV w i))) [] h1 = some (some (.inl v), h2)) (g : Wt p l e R s m args below meth c cells slots Q w A nMe 2098 (lsH i z5 z6) [] h2) : Wt p l e R s m args below meth c cells slots Q w A nMe pc (lsH i z5 z6) [] h := by
  unfold chC at ck
  simp only [Bool.and_eq_true, decide_eq_true_eq] at ck
  obtain ⟨⟨⟨⟨⟨⟨⟨f0, f1⟩, f2⟩, f3⟩, f4⟩, f5⟩, f6⟩, f7⟩ := ck
  refine L_aload_n K f0 rfl (by decide) rfl ?_
  refine L_args K hn hm cs _ _ hc f1 ?_
  refine L_call K f2 sc lc oc.symm rfl (by decide) rc ?_
  refine L_aload_n K f3 rfl (by decide) rfl ?_
  refine L_args K hn hm cs _ _ hc f4 ?_
  refine L_call K f5 sm lm om.symm rfl (by show 1 + 0 ≤ 8; omega) rm ?_
  exact L_icmp_eq_t K f6 f7 rfl g
end LAWC
