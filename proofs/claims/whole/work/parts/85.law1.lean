/-! the law's body, an instruction each -/
theorem met_run (l : Launch) {w : WP} {A : Nat → Prop} (hz : w.2.1.category = 1) {d k2 : Nat} {vs : List MV} {h h1 : MH} {v1 : Option MV} (hr : Run d k2 0 (entry k2 vs) [] h = some (v1, h1)) (hk : k2 < nMe) (hA : okA vs) (hlen : (ent vs).length ≤ mL k2) (hok : okH h ∧ h scC = w.2.2.2.2.1 ∧ slen h = w.2.2.2.2.2) : Met l (mY k2) (wsM k2) (RmD d) (PcM w A vs h) (QcM w A v1 h1) 0 0 A := by
  obtain ⟨f, e1⟩ := Run_iff.1 hr
  refine Met.ofW (cc := mC k2) (maxL := mL k2) (ret := mR k2) (m_ok hk).2.1 rfl ?_
  intro p e s m args below meth c s₁ B hml hPc
  obtain ⟨rfl, hP, hK, hD, hRM⟩ := hPc
  have hts : ∀ q ∈ wsM k2, q.before ((vs.map (val w)).toArray) s = true := atoms_spec (ws := wsM k2) B.pre
  have hown : s.vm.findClass (cnm (mO k2)) = some m.cls := by
    rw [← (m_ok hk).1]
    exact findClass_of_methodNamed B.named
  have C2 : CX p (RmD d) s m ((vs.map (val w)).toArray) c 0 0 w A k2 := ⟨⟨B.exec, B.bytes, hml, hown, fun q hq => hts q (List.mem_cons_of_mem _ hq)⟩, hK, hRM, hz, by show 1 ≤ d + 1; omega, by show 60 ≤ 60 * d + 60; omega, Nat.le_refl _, Nat.le_refl _⟩
  rw [lg_entry_eq]
  have hlg : (lg_sl (vs.map (val w))).length ≤ mL k2 := by rw [ent_len w hz vs hA]; exact hlen
  have hl := lv_entry (vs.map (val w)) hlg
  rw [← asc_ent w hz (mL k2 - (ent vs).length) vs 0 hA] at hl
  exact rn_ok l w A hz f d k2 0 (entry k2 vs) [] h v1 h1 e1 C2 (Nat.le_refl _) (Nat.le_refl _) (fun pc lsA H locs hf hov hw => ret_ok B.exec B.bytes B.returns B.notSynchronized hf hov hw) _ s.heap [] hl (by unfold entry; rw [List.length_append, List.length_replicate]; omega) (okL_entry hA) (fun x hx => by cases hx) ⟨hP, hD, va_S.rf, hok⟩
set_option maxRecDepth 100000 in
set_option maxHeartbeats 8000000 in
theorem stp_cl {k pc : Nat} {ls st : List MV} {h : MH} {nx : Nat → List MV → List MV → MH → Prop} {cl cl' : Nat → List MV → Nat → List MV → Prop} {rt : Option MV → Prop} (hcl : ∀ a b c d, cl a b c d → cl' a b c d) : stp k pc ls st h nx cl rt False → stp k pc ls st h nx cl' rt False := by
  unfold stp
  cases fetch k pc with
  | none => exact id
  | some il =>
    obtain ⟨i, len⟩ := il
    dsimp only
    cases i <;> try exact id
    all_goals dsimp only
    all_goals (repeat' split)
    all_goals first | exact id | exact hcl _ _ _ _
section LAWB
variable {p : Program} {l : Launch} {e : Env} {R : Room} {s : State} {m : MethodId} {args : Array Value} {below : List Frame} {meth : Method} {c : Code} {cells slots : Nat} {Q : State → Prop} {w : WP} {A : Nat → Prop}
theorem Wt_wr {k pc : Nat} {ls st : List MV} {h : MH} (g : okH h → h scC = w.2.2.2.2.1 → slen h = w.2.2.2.2.2 → okA st → Wt p l e R s m args below meth c cells slots Q w A k pc ls st h) : Wt p l e R s m args below meth c cells slots Q w A k pc ls st h := fun lsA H locs h1 h2 h3 h4 h5 => g h5.2.2.2.1 h5.2.2.2.2.1 h5.2.2.2.2.2 h4 lsA H locs h1 h2 h3 h4 h5
set_option maxRecDepth 20000 in
theorem lw_stp {k : Nat} (C : CX p R s m args c cells slots w A k) (hF : 42 ≤ R.frames) (hL : 2520 ≤ R.locals) {pc : Nat} {ls st : List MV} {h : MH}
    (hs : stp k pc ls st h (fun pc ls st h => Wt p l e R s m args below meth c cells slots Q w A k pc ls st h) (fun k2 vs pc2 rest => ∃ v h2, Run 40 k2 0 (entry k2 vs) [] h = some (v, h2) ∧ Wt p l e R s m args below meth c cells slots Q w A k pc2 ls (v.toList ++ rest) h2) (fun _ => False) False) :
    Wt p l e R s m args below meth c cells slots Q w A k pc ls st h := by
  refine stp_ok C (rt := fun _ => False) (fun v lsA H locs hv => hv.elim) (stp_cl (fun k2 vs pc2 rest q => ?_) hs)
  obtain ⟨v, h2, q1, q2⟩ := q
  exact ⟨v, h2, fun hk hA hlen hok => ⟨RmD 40, met_run l C.2.2.2.1 q1 hk hA hlen hok, rfl, rfl, by show 40 + 1 + 1 ≤ R.frames; omega, by show 60 * 40 + 60 + 60 ≤ R.locals; omega⟩, q2⟩
def LX (p : Program) (R : Room) (s : State) (m : MethodId) (args : Array Value) (c : Code) (cells slots : Nat) (w : WP) (A : Nat → Prop) : Prop := CX p R s m args c cells slots w A nMe ∧ 42 ≤ R.frames ∧ 2520 ≤ R.locals
theorem L_aload_n (K : LX p R s m args c cells slots w A) {pc pc' : Nat} {ls st : List MV} {h : MH} {n : Fin 4} {a : Nat} (hf : fetch nMe pc = some (.aload_n n, 1)) (hl : ls[n.val]? = some (.inr (.inr (.inl a)))) (ha : a < nC) (hp : pc + 1 = pc') (g : Wt p l e R s m args below meth c cells slots Q w A nMe pc' ls ((.inr (.inr (.inl a))) :: st) h) : Wt p l e R s m args below meth c cells slots Q w A nMe pc ls st h := by
  subst hp
  refine lw_stp K.1 K.2.1 K.2.2 ?_
  unfold stp
  rw [hf]
  dsimp only
  rw [if_pos rfl, hl]
  dsimp only
  rw [if_pos ha]
  exact g
theorem L_iload (K : LX p R s m args c cells slots w A) {pc pc' : Nat} {ls st : List MV} {h : MH} {n : Nat} {x : Int} (hf : fetch nMe pc = some (.iload n, 2)) (hl : ls[n]? = some (.inl x)) (hp : pc + 2 = pc') (g : Wt p l e R s m args below meth c cells slots Q w A nMe pc' ls (.inl x :: st) h) : Wt p l e R s m args below meth c cells slots Q w A nMe pc ls st h := by
  subst hp
  refine lw_stp K.1 K.2.1 K.2.2 ?_
  unfold stp
  rw [hf]
  dsimp only
  rw [if_pos rfl, hl]
  exact g
theorem L_istore (K : LX p R s m args c cells slots w A) {pc pc' : Nat} {ls st : List MV} {h : MH} {n : Nat} {x : Int} {ls' : List MV} (hf : fetch nMe pc = some (.istore n, 2)) (hl : n < ls.length) (he : st1 ls n (.inl x) = ls') (hp : pc + 2 = pc') (g : Wt p l e R s m args below meth c cells slots Q w A nMe pc' ls' st h) : Wt p l e R s m args below meth c cells slots Q w A nMe pc ls (.inl x :: st) h := by
  subst hp
  refine lw_stp K.1 K.2.1 K.2.2 ?_
  unfold stp
  rw [hf]
  dsimp only
  rw [if_pos rfl, if_pos hl, he]
  exact g
theorem L_iconst (K : LX p R s m args c cells slots w A) {pc pc' : Nat} {ls st : List MV} {h : MH} {n v : Int} (hf : fetch nMe pc = some (.iconst n, 1)) (hv : wI n = v) (hp : pc + 1 = pc') (g : Wt p l e R s m args below meth c cells slots Q w A nMe pc' ls (.inl v :: st) h) : Wt p l e R s m args below meth c cells slots Q w A nMe pc ls st h := by
  subst hp
  refine lw_stp K.1 K.2.1 K.2.2 ?_
  unfold stp
  rw [hf]
  dsimp only
  rw [if_pos rfl, hv]
  exact g
theorem L_bipush (K : LX p R s m args c cells slots w A) {pc pc' : Nat} {ls st : List MV} {h : MH} {n v : Int} (hf : fetch nMe pc = some (.bipush n, 2)) (hv : toB n = v) (hp : pc + 2 = pc') (g : Wt p l e R s m args below meth c cells slots Q w A nMe pc' ls (.inl v :: st) h) : Wt p l e R s m args below meth c cells slots Q w A nMe pc ls st h := by
  subst hp
  refine lw_stp K.1 K.2.1 K.2.2 ?_
  unfold stp
  rw [hf]
  dsimp only
  rw [if_pos rfl, hv]
  exact g
theorem L_iadd (K : LX p R s m args c cells slots w A) {pc pc' : Nat} {ls st : List MV} {h : MH} {x y : Int} (hf : fetch nMe pc = some (.iadd, 1)) (hp : pc + 1 = pc') (g : Wt p l e R s m args below meth c cells slots Q w A nMe pc' ls (.inl (wI (x + y)) :: st) h) : Wt p l e R s m args below meth c cells slots Q w A nMe pc ls (.inl y :: .inl x :: st) h := by
  subst hp
  refine lw_stp K.1 K.2.1 K.2.2 ?_
  unfold stp
  rw [hf]
  exact g
theorem L_isub (K : LX p R s m args c cells slots w A) {pc pc' : Nat} {ls st : List MV} {h : MH} {x y : Int} (hf : fetch nMe pc = some (.isub, 1)) (hp : pc + 1 = pc') (g : Wt p l e R s m args below meth c cells slots Q w A nMe pc' ls (.inl (wI (x - y)) :: st) h) : Wt p l e R s m args below meth c cells slots Q w A nMe pc ls (.inl y :: .inl x :: st) h := by
  subst hp
  refine lw_stp K.1 K.2.1 K.2.2 ?_
  unfold stp
  rw [hf]
  exact g
theorem L_iand (K : LX p R s m args c cells slots w A) {pc pc' : Nat} {ls st : List MV} {h : MH} {x y : Int} (hf : fetch nMe pc = some (.iand, 1)) (hp : pc + 1 = pc') (g : Wt p l e R s m args below meth c cells slots Q w A nMe pc' ls (.inl (iAnd x y) :: st) h) : Wt p l e R s m args below meth c cells slots Q w A nMe pc ls (.inl y :: .inl x :: st) h := by
  subst hp
  refine lw_stp K.1 K.2.1 K.2.2 ?_
  unfold stp
  rw [hf]
  exact g
theorem L_land (K : LX p R s m args c cells slots w A) {pc pc' : Nat} {ls st : List MV} {h : MH} {x y : Int} (hf : fetch nMe pc = some (.land, 1)) (hp : pc + 1 = pc') (g : Wt p l e R s m args below meth c cells slots Q w A nMe pc' ls ((.inr (.inl (lAnd x y))) :: st) h) : Wt p l e R s m args below meth c cells slots Q w A nMe pc ls ((.inr (.inl y)) :: (.inr (.inl x)) :: st) h := by
  subst hp
  refine lw_stp K.1 K.2.1 K.2.2 ?_
  unfold stp
  rw [hf]
  exact g
theorem L_lor (K : LX p R s m args c cells slots w A) {pc pc' : Nat} {ls st : List MV} {h : MH} {x y : Int} (hf : fetch nMe pc = some (.lor, 1)) (hp : pc + 1 = pc') (g : Wt p l e R s m args below meth c cells slots Q w A nMe pc' ls ((.inr (.inl (lOr x y))) :: st) h) : Wt p l e R s m args below meth c cells slots Q w A nMe pc ls ((.inr (.inl y)) :: (.inr (.inl x)) :: st) h := by
  subst hp
  refine lw_stp K.1 K.2.1 K.2.2 ?_
  unfold stp
  rw [hf]
  exact g
theorem L_lshl (K : LX p R s m args c cells slots w A) {pc pc' : Nat} {ls st : List MV} {h : MH} {x y : Int} (hf : fetch nMe pc = some (.lshl, 1)) (hp : pc + 1 = pc') (g : Wt p l e R s m args below meth c cells slots Q w A nMe pc' ls ((.inr (.inl (lShl x y))) :: st) h) : Wt p l e R s m args below meth c cells slots Q w A nMe pc ls (.inl y :: (.inr (.inl x)) :: st) h := by
  subst hp
  refine lw_stp K.1 K.2.1 K.2.2 ?_
  unfold stp
  rw [hf]
  exact g
theorem L_lcmp (K : LX p R s m args c cells slots w A) {pc pc' : Nat} {ls st : List MV} {h : MH} {x y : Int} (hf : fetch nMe pc = some (.lcmp, 1)) (hp : pc + 1 = pc') (g : Wt p l e R s m args below meth c cells slots Q w A nMe pc' ls (.inl (cmpL x y) :: st) h) : Wt p l e R s m args below meth c cells slots Q w A nMe pc ls ((.inr (.inl y)) :: (.inr (.inl x)) :: st) h := by
  subst hp
  refine lw_stp K.1 K.2.1 K.2.2 ?_
  unfold stp
  rw [hf]
  exact g
theorem L_i2l (K : LX p R s m args c cells slots w A) {pc pc' : Nat} {ls st : List MV} {h : MH} {x : Int} (hf : fetch nMe pc = some (.i2l, 1)) (hp : pc + 1 = pc') (g : Wt p l e R s m args below meth c cells slots Q w A nMe pc' ls ((.inr (.inl x)) :: st) h) : Wt p l e R s m args below meth c cells slots Q w A nMe pc ls (.inl x :: st) h := by
  subst hp
  refine lw_stp K.1 K.2.1 K.2.2 ?_
  unfold stp
  rw [hf]
  exact g
theorem L_ldc2_w (K : LX p R s m args c cells slots w A) {pc pc' : Nat} {ls st : List MV} {h : MH} {i q : Nat} {v : Int} (hf : fetch nMe pc = some (.ldc2_w i, 3)) (ho : mO nMe = q) (hc : ll q i = some v) (hp : pc + 3 = pc') (g : Wt p l e R s m args below meth c cells slots Q w A nMe pc' ls ((.inr (.inl v)) :: st) h) : Wt p l e R s m args below meth c cells slots Q w A nMe pc ls st h := by
  subst hp
  refine lw_stp K.1 K.2.1 K.2.2 ?_
  unfold stp
  rw [hf]
  dsimp only
  rw [if_pos rfl, ho, hc]
  exact g
theorem L_len112 (K : LX p R s m args c cells slots w A) {pc pc' : Nat} {ls st : List MV} {h : MH} {a n : Nat} (hf : fetch nMe pc = some (.arraylength, 1)) (hk : mk a = (112, n)) (hp : pc + 1 = pc') (g : Wt p l e R s m args below meth c cells slots Q w A nMe pc' ls (.inl (slen h : Int) :: st) h) : Wt p l e R s m args below meth c cells slots Q w A nMe pc ls ((.inr (.inr (.inl a))) :: st) h := by
  subst hp
  refine lw_stp K.1 K.2.1 K.2.2 ?_
  unfold stp
  rw [hf]
  dsimp only
  rw [if_pos rfl, hk]
  exact g
theorem L_iald112 (K : LX p R s m args c cells slots w A) {pc pc' : Nat} {ls st : List MV} {h : MH} {a n : Nat} {i : Int} (hf : fetch nMe pc = some (.iaload, 1)) (hk : mk a = (112, n)) (hi : 0 ≤ i ∧ i < slen h) (hp : pc + 1 = pc') (g : Wt p l e R s m args below meth c cells slots Q w A nMe pc' ls (.inl (h a i.toNat) :: st) h) : Wt p l e R s m args below meth c cells slots Q w A nMe pc ls (.inl i :: (.inr (.inr (.inl a))) :: st) h := by
  subst hp
  refine lw_stp K.1 K.2.1 K.2.2 ?_
  unfold stp
  rw [hf]
  dsimp only
  rw [if_pos rfl, hk]
  show (if inb i (slen h) = true then _ else _)
  rw [if_pos (by simpa [inb] using hi)]
  exact g
theorem L_lald (K : LX p R s m args c cells slots w A) {pc pc' : Nat} {ls st : List MV} {h : MH} {a n : Nat} {i : Int} (hf : fetch nMe pc = some (.laload, 1)) (hk : mk a = (103, n)) (hi : 0 ≤ i ∧ i < n) (hp : pc + 1 = pc') (g : Wt p l e R s m args below meth c cells slots Q w A nMe pc' ls ((.inr (.inl (h a i.toNat))) :: st) h) : Wt p l e R s m args below meth c cells slots Q w A nMe pc ls (.inl i :: (.inr (.inr (.inl a))) :: st) h := by
  subst hp
  refine lw_stp K.1 K.2.1 K.2.2 ?_
  unfold stp
  rw [hf]
  dsimp only
  rw [if_pos rfl, hk]
  dsimp only
  rw [if_pos ⟨rfl, by simpa [inb] using hi⟩]
  exact g
theorem L_iinc (K : LX p R s m args c cells slots w A) {pc pc' : Nat} {ls st : List MV} {h : MH} {n : Nat} {i x : Int} {ls' : List MV} (hf : fetch nMe pc = some (.iinc n i, 3)) (hl : ls[n]? = some (.inl x)) (he : st1 ls n (.inl (wI (x + i))) = ls') (hp : pc + 3 = pc') (g : Wt p l e R s m args below meth c cells slots Q w A nMe pc' ls' st h) : Wt p l e R s m args below meth c cells slots Q w A nMe pc ls st h := by
  subst hp
  refine lw_stp K.1 K.2.1 K.2.2 ?_
  unfold stp
  rw [hf]
  dsimp only
  rw [if_pos rfl, hl]
  dsimp only
  rw [he]
  exact g
theorem L_goto (K : LX p R s m args c cells slots w A) {pc pc' : Nat} {ls st : List MV} {h : MH} {q : Int} (hf : fetch nMe pc = some (.goto q, 3)) (ht : (pc : Int) + q = (pc' : Int)) (g : Wt p l e R s m args below meth c cells slots Q w A nMe pc' ls st h) : Wt p l e R s m args below meth c cells slots Q w A nMe pc ls st h := by
  refine lw_stp K.1 K.2.1 K.2.2 ?_
  unfold stp
  rw [hf]
  dsimp only
  rw [if_pos rfl, if_pos (by omega), ht]
  exact g
theorem L_if_eq_t (K : LX p R s m args c cells slots w A) {pc pc' : Nat} {ls st : List MV} {h : MH} {x q : Int} (hf : fetch nMe pc = some (.ifCond .eq q, 3)) (ht : (pc : Int) + q = (pc' : Int)) (hc : x = 0) (g : Wt p l e R s m args below meth c cells slots Q w A nMe pc' ls st h) : Wt p l e R s m args below meth c cells slots Q w A nMe pc ls (.inl x :: st) h := by
  refine lw_stp K.1 K.2.1 K.2.2 ?_
  unfold stp
  rw [hf]
  dsimp only
  rw [if_pos rfl, if_pos (by omega), if_pos (by simp [tst]; first | exact hc | omega), ht]
  exact g
theorem L_if_eq_f (K : LX p R s m args c cells slots w A) {pc pc' : Nat} {ls st : List MV} {h : MH} {x q : Int} {t : Nat} (hf : fetch nMe pc = some (.ifCond .eq q, 3)) (ht : (pc : Int) + q = (t : Int)) (hp : pc + 3 = pc') (hc : ¬ (x = 0)) (g : Wt p l e R s m args below meth c cells slots Q w A nMe pc' ls st h) : Wt p l e R s m args below meth c cells slots Q w A nMe pc ls (.inl x :: st) h := by
  refine lw_stp K.1 K.2.1 K.2.2 ?_
  unfold stp
  rw [hf]
  dsimp only
  rw [if_pos rfl, if_pos (by omega), if_neg (by simp [tst]; first | exact hc | omega), hp]
  exact g
theorem L_icmp_eq_t (K : LX p R s m args c cells slots w A) {pc pc' : Nat} {ls st : List MV} {h : MH} {x y q : Int} (hf : fetch nMe pc = some (.if_icmp .eq q, 3)) (ht : (pc : Int) + q = (pc' : Int)) (hc : x = y) (g : Wt p l e R s m args below meth c cells slots Q w A nMe pc' ls st h) : Wt p l e R s m args below meth c cells slots Q w A nMe pc ls (.inl y :: .inl x :: st) h := by
  refine lw_stp K.1 K.2.1 K.2.2 ?_
  unfold stp
  rw [hf]
  dsimp only
  rw [if_pos rfl, if_pos (by omega), if_pos (by simp [tst]; first | exact hc | omega), ht]
  exact g
theorem L_icmp_eq_f (K : LX p R s m args c cells slots w A) {pc pc' : Nat} {ls st : List MV} {h : MH} {x y q : Int} {t : Nat} (hf : fetch nMe pc = some (.if_icmp .eq q, 3)) (ht : (pc : Int) + q = (t : Int)) (hp : pc + 3 = pc') (hc : ¬ (x = y)) (g : Wt p l e R s m args below meth c cells slots Q w A nMe pc' ls st h) : Wt p l e R s m args below meth c cells slots Q w A nMe pc ls (.inl y :: .inl x :: st) h := by
  refine lw_stp K.1 K.2.1 K.2.2 ?_
  unfold stp
  rw [hf]
  dsimp only
  rw [if_pos rfl, if_pos (by omega), if_neg (by simp [tst]; first | exact hc | omega), hp]
  exact g
theorem L_if_ne_t (K : LX p R s m args c cells slots w A) {pc pc' : Nat} {ls st : List MV} {h : MH} {x q : Int} (hf : fetch nMe pc = some (.ifCond .ne q, 3)) (ht : (pc : Int) + q = (pc' : Int)) (hc : ¬ x = 0) (g : Wt p l e R s m args below meth c cells slots Q w A nMe pc' ls st h) : Wt p l e R s m args below meth c cells slots Q w A nMe pc ls (.inl x :: st) h := by
  refine lw_stp K.1 K.2.1 K.2.2 ?_
  unfold stp
  rw [hf]
  dsimp only
  rw [if_pos rfl, if_pos (by omega), if_pos (by simp [tst]; first | exact hc | omega), ht]
  exact g
theorem L_if_ne_f (K : LX p R s m args c cells slots w A) {pc pc' : Nat} {ls st : List MV} {h : MH} {x q : Int} {t : Nat} (hf : fetch nMe pc = some (.ifCond .ne q, 3)) (ht : (pc : Int) + q = (t : Int)) (hp : pc + 3 = pc') (hc : ¬ (¬ x = 0)) (g : Wt p l e R s m args below meth c cells slots Q w A nMe pc' ls st h) : Wt p l e R s m args below meth c cells slots Q w A nMe pc ls (.inl x :: st) h := by
  refine lw_stp K.1 K.2.1 K.2.2 ?_
  unfold stp
  rw [hf]
  dsimp only
  rw [if_pos rfl, if_pos (by omega), if_neg (by simp [tst]; first | exact hc | omega), hp]
  exact g
theorem L_icmp_ne_t (K : LX p R s m args c cells slots w A) {pc pc' : Nat} {ls st : List MV} {h : MH} {x y q : Int} (hf : fetch nMe pc = some (.if_icmp .ne q, 3)) (ht : (pc : Int) + q = (pc' : Int)) (hc : ¬ x = y) (g : Wt p l e R s m args below meth c cells slots Q w A nMe pc' ls st h) : Wt p l e R s m args below meth c cells slots Q w A nMe pc ls (.inl y :: .inl x :: st) h := by
  refine lw_stp K.1 K.2.1 K.2.2 ?_
  unfold stp
  rw [hf]
  dsimp only
  rw [if_pos rfl, if_pos (by omega), if_pos (by simp [tst]; first | exact hc | omega), ht]
  exact g
theorem L_icmp_ne_f (K : LX p R s m args c cells slots w A) {pc pc' : Nat} {ls st : List MV} {h : MH} {x y q : Int} {t : Nat} (hf : fetch nMe pc = some (.if_icmp .ne q, 3)) (ht : (pc : Int) + q = (t : Int)) (hp : pc + 3 = pc') (hc : ¬ (¬ x = y)) (g : Wt p l e R s m args below meth c cells slots Q w A nMe pc' ls st h) : Wt p l e R s m args below meth c cells slots Q w A nMe pc ls (.inl y :: .inl x :: st) h := by
  refine lw_stp K.1 K.2.1 K.2.2 ?_
  unfold stp
  rw [hf]
  dsimp only
  rw [if_pos rfl, if_pos (by omega), if_neg (by simp [tst]; first | exact hc | omega), hp]
  exact g
theorem L_if_gt_t (K : LX p R s m args c cells slots w A) {pc pc' : Nat} {ls st : List MV} {h : MH} {x q : Int} (hf : fetch nMe pc = some (.ifCond .gt q, 3)) (ht : (pc : Int) + q = (pc' : Int)) (hc : 0 < x) (g : Wt p l e R s m args below meth c cells slots Q w A nMe pc' ls st h) : Wt p l e R s m args below meth c cells slots Q w A nMe pc ls (.inl x :: st) h := by
  refine lw_stp K.1 K.2.1 K.2.2 ?_
  unfold stp
  rw [hf]
  dsimp only
  rw [if_pos rfl, if_pos (by omega), if_pos (by simp [tst]; first | exact hc | omega), ht]
  exact g
theorem L_if_gt_f (K : LX p R s m args c cells slots w A) {pc pc' : Nat} {ls st : List MV} {h : MH} {x q : Int} {t : Nat} (hf : fetch nMe pc = some (.ifCond .gt q, 3)) (ht : (pc : Int) + q = (t : Int)) (hp : pc + 3 = pc') (hc : ¬ (0 < x)) (g : Wt p l e R s m args below meth c cells slots Q w A nMe pc' ls st h) : Wt p l e R s m args below meth c cells slots Q w A nMe pc ls (.inl x :: st) h := by
  refine lw_stp K.1 K.2.1 K.2.2 ?_
  unfold stp
  rw [hf]
  dsimp only
  rw [if_pos rfl, if_pos (by omega), if_neg (by simp [tst]; first | exact hc | omega), hp]
  exact g
theorem L_icmp_gt_t (K : LX p R s m args c cells slots w A) {pc pc' : Nat} {ls st : List MV} {h : MH} {x y q : Int} (hf : fetch nMe pc = some (.if_icmp .gt q, 3)) (ht : (pc : Int) + q = (pc' : Int)) (hc : y < x) (g : Wt p l e R s m args below meth c cells slots Q w A nMe pc' ls st h) : Wt p l e R s m args below meth c cells slots Q w A nMe pc ls (.inl y :: .inl x :: st) h := by
  refine lw_stp K.1 K.2.1 K.2.2 ?_
  unfold stp
  rw [hf]
  dsimp only
  rw [if_pos rfl, if_pos (by omega), if_pos (by simp [tst]; first | exact hc | omega), ht]
  exact g
theorem L_icmp_gt_f (K : LX p R s m args c cells slots w A) {pc pc' : Nat} {ls st : List MV} {h : MH} {x y q : Int} {t : Nat} (hf : fetch nMe pc = some (.if_icmp .gt q, 3)) (ht : (pc : Int) + q = (t : Int)) (hp : pc + 3 = pc') (hc : ¬ (y < x)) (g : Wt p l e R s m args below meth c cells slots Q w A nMe pc' ls st h) : Wt p l e R s m args below meth c cells slots Q w A nMe pc ls (.inl y :: .inl x :: st) h := by
  refine lw_stp K.1 K.2.1 K.2.2 ?_
  unfold stp
  rw [hf]
  dsimp only
  rw [if_pos rfl, if_pos (by omega), if_neg (by simp [tst]; first | exact hc | omega), hp]
  exact g
theorem L_tsw (K : LX p R s m args c cells slots w A) {pc pc' : Nat} {ls st : List MV} {h : MH} {D lo hi x q : Int} {os : Array Int} {len : Nat} (hf : fetch nMe pc = some (.tableswitch D lo hi os, len)) (h1 : ¬ (x < lo ∨ hi < x)) (ho : os[(x - lo).toNat]? = some q) (ht : (pc : Int) + q = (pc' : Int)) (g : Wt p l e R s m args below meth c cells slots Q w A nMe pc' ls st h) : Wt p l e R s m args below meth c cells slots Q w A nMe pc ls (.inl x :: st) h := by
  refine lw_stp K.1 K.2.1 K.2.2 ?_
  unfold stp
  rw [hf]
  dsimp only
  rw [if_neg h1, ho]
  dsimp only
  rw [if_pos (by omega), ht]
  exact g
theorem L_tswD (K : LX p R s m args c cells slots w A) {pc pc' : Nat} {ls st : List MV} {h : MH} {D lo hi x : Int} {os : Array Int} {len : Nat} (hf : fetch nMe pc = some (.tableswitch D lo hi os, len)) (h1 : x < lo ∨ hi < x) (ht : (pc : Int) + D = (pc' : Int)) (g : Wt p l e R s m args below meth c cells slots Q w A nMe pc' ls st h) : Wt p l e R s m args below meth c cells slots Q w A nMe pc ls (.inl x :: st) h := by
  refine lw_stp K.1 K.2.1 K.2.2 ?_
  unfold stp
  rw [hf]
  dsimp only
  rw [if_pos h1, if_pos (by omega), ht]
  exact g
theorem L_vcall (K : LX p R s m args c cells slots w A) {pc pc' : Nat} {ls st : List MV} {h h2 : MH} {i q k2 n a : Nat} {vs rest : List MV} {v : Int} (hf : fetch nMe pc = some (.invokevirtual i, 3)) (ho : mO nMe = q) (hs : vl q i = some (k2, n)) (hn : n ≤ st.length) (hv : (st.take n).reverse = vs) (hd : st.drop n = .inr (.inr (.inl a)) :: rest) (hc : cats rest ≤ 8) (hl : (ent (.inr (.inr (.inl a)) :: vs)).length ≤ mL k2) (hk : (mk a).1 = mO k2) (hp : pc + 3 = pc') (hr : Run 40 k2 0 (entry k2 (.inr (.inr (.inl a)) :: vs)) [] h = some (some (.inl v), h2)) (g : Wt p l e R s m args below meth c cells slots Q w A nMe pc' ls (.inl v :: rest) h2) : Wt p l e R s m args below meth c cells slots Q w A nMe pc ls st h := by
  subst hp
  refine lw_stp K.1 K.2.1 K.2.2 ?_
  unfold stp
  rw [hf]
  dsimp only
  rw [if_pos rfl, ho, hs]
  dsimp only
  rw [hd]
  dsimp only
  rw [hv, if_pos ⟨hn, hk, hc, hl⟩]
  exact ⟨some (.inl v), h2, hr, g⟩
end LAWB
