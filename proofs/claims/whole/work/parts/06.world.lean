/-! the world: which cells of the heap the small machine's cells are -/
/-- where the cells lie, the one unknown reference, the classes' numbers, the array classes; the script and its length -/
abbrev WP : Type := (Nat → Nat) × Value × va_G × (Nat → ClassId) × (Nat → Int) × Nat
def val (w : WP) (v : MV) : Value := match v with
  | .inl n => .int (Int32.ofInt n)
  | .inr (.inl n) => .long (Int64.ofInt n)
  | .inr (.inr (.inl a)) => if a < nC then .ref (w.1 a) else w.2.1
  | .inr (.inr (.inr _)) => .null
def fvl (w : WP) (g : Nat → Int) (a c j : Nat) : Value := match ft c j with
  | 0 => .int (Int32.ofInt (g j))
  | 5 => .int (Int32.ofInt (g j))
  | 1 => .long (Int64.ofInt (g j))
  | 2 => .ref (w.1 (mr a j))
  | 3 => .ref (w.1 (g j).toNat)
  | _ => .null
def dC0 : vw_C := ("", fun _ => ("", "", "", false), 0)
def nF (c : Nat) : Nat := (mcl.getD c dC0).2.2
def cE (w : WP) (g : Nat → Int) (a : Nat) : va_E := match (mk a).1 with
  | 100 => .inl (w.2.2.2.1 0, (mk a).2, .inl (fun i => Int32.ofInt (g i)))
  | 101 => .inl (w.2.2.2.1 1, (mk a).2, .inl (fun i => Int32.ofInt (g i)))
  | 102 => .inl (w.2.2.2.1 2, (mk a).2, .inl (fun i => Int32.ofInt (g i)))
  | 103 => .inl (w.2.2.2.1 3, (mk a).2, .inr (.inl (fun i => Int64.ofInt (g i))))
  | 104 => .inl (w.2.2.2.1 4, (mk a).2, .inr (.inr (.inr (.inr (fun i => if i < (mk a).2 then some (w.1 (mr a 0 + i)) else none)))))
  | c => .inr (c, (List.range (nF c)).map (fun j => fvl w g a c j))
def wS (w : WP) (h : MH) : va_W := (List.range nM).map (fun a => (w.1 a, cE w (h a) a))
def tyW (w : WP) : List (ClassId × FieldType) := [(w.2.2.2.1 0, .int), (w.2.2.2.1 1, .byte), (w.2.2.2.1 2, .boolean), (w.2.2.2.1 3, .long), (w.2.2.2.1 4, .array .int)]
theorem wS_get {w : WP} {h : MH} {a : Nat} (ha : a < nM) : (wS w h)[a]? = some (w.1 a, cE w (h a) a) := by
  unfold wS
  rw [List.getElem?_map, List.getElem?_range ha]
  rfl
theorem wS_len (w : WP) (h : MH) : (wS w h).length = nM := by simp [wS]
theorem wS_set {w : WP} {h h2 : MH} {a : Nat} (ha : a < nM) (ho : ∀ b, b ≠ a → h2 b = h b) : (wS w h).set a (w.1 a, cE w (h2 a) a) = wS w h2 := by
  apply List.ext_getElem?
  intro b
  by_cases hb : b < nM
  · rw [wS_get hb]
    by_cases e : b = a
    · subst e
      rw [List.getElem?_set_self (by rw [wS_len]; exact hb)]
    · rw [List.getElem?_set_ne (fun q => e q.symm), wS_get hb, ho b e]
  · rw [List.getElem?_eq_none (by rw [List.length_set, wS_len]; omega), List.getElem?_eq_none (by rw [wS_len]; omega)]
theorem up_ne {h : MH} {a j b : Nat} {v : Int} (e : b ≠ a) : up h a j v b = h b := by
  funext y
  simp [up, e]
theorem up_at (h : MH) (a j : Nat) (v : Int) : up h a j v a = fun y => if y = j then v else h a y := by
  funext y
  simp [up]
theorem cpy_ne {h : MH} {f : Nat → Int} {d sp dp n b : Nat} (e : b ≠ d) : cpy h f d sp dp n b = h b := by
  funext y
  simp [cpy, e]
theorem cpy_at (h : MH) (f : Nat → Int) (d sp dp n : Nat) : cpy h f d sp dp n d = fun y => if dp ≤ y ∧ y < dp + n then f (sp + (y - dp)) else h d y := by
  funext y
  simp [cpy]
/-- numbers in their ranges, in a cell's place -/
def okS (a j : Nat) (x : Int) : Prop := match (mk a).1 with
  | 103 => inL x
  | c => match ft c j with
    | 1 => inL x
    | 3 => 0 ≤ x ∧ (mk x.toNat).1 = 101
    | _ => inI x
def okH (h : MH) : Prop := ∀ a j, okS a j (h a j)
def okV (v : MV) : Prop := match v with
  | .inl n => inI n
  | .inr (.inl n) => inL n
  | .inr (.inr (.inl _)) => True
  | .inr (.inr (.inr _)) => False
def okL (v : MV) : Prop := v = vU ∨ okV v
/-- kinds: which cells there are of a kind -/
theorem mk_lt {a : Nat} (h : (mk a).1 ≠ 199) : a < nC := by
  by_cases q : a < nC
  · exact q
  · exfalso
    apply h
    have : kT.length = nC := by decide +kernel
    unfold mk
    rw [List.getD_eq_getElem?_getD, List.getElem?_eq_none (by omega)]
    rfl
theorem kinds : ∀ a, a < nC → ((mk a).1 < 13 ∨ (mk a).1 = 100 ∨ (mk a).1 = 101 ∨ (mk a).1 = 102 ∨ (mk a).1 = 103 ∨ (mk a).1 = 104 → a < nM) ∧ (mk a).2 < 20000 := by decide +kernel
theorem mk_mut {a : Nat} (h : (mk a).1 < 13 ∨ (mk a).1 = 100 ∨ (mk a).1 = 101 ∨ (mk a).1 = 102 ∨ (mk a).1 = 103 ∨ (mk a).1 = 104) : a < nM ∧ a < nC := by
  have h1 : a < nC := mk_lt (by omega)
  exact ⟨(kinds a h1).1 h, h1⟩
theorem nM_nC : nM ≤ nC := by decide +kernel
theorem val_ref {w : WP} {a : Nat} (h : a < nC) : val w (.inr (.inr (.inl a))) = .ref (w.1 a) := by simp [val, h]
/-- references that are held lead to cells -/
theorem mr_lt : ∀ a, a < nC → ∀ j, j < 60 → mr a j < nC := by decide +kernel
theorem mr_rows : ∀ a, a < nC → (mk a).1 = 104 → ∀ i, i < (mk a).2 → mr a 0 + i < nM := by decide +kernel
theorem val_cat (w : WP) {v : MV} (h : okV v) (hz : w.2.1.category = 1) : (val w v).category = cat v := by
  match v, h with
  | .inl n, _ => rfl
  | .inr (.inl n), _ => rfl
  | .inr (.inr (.inl a)), _ =>
    unfold val
    by_cases q : a < nC
    · simp only [q, if_true]; rfl
    · simp only [q, if_false]; exact hz
theorem cats_val (w : WP) {l : List MV} (h : ∀ v ∈ l, okV v) (hz : w.2.1.category = 1) : ((l.map (val w)).map fun v => v.category).sum = cats l := by
  induction l with
  | nil => rfl
  | cons v r ih =>
    have := ih (fun x hx => h x (List.mem_cons_of_mem _ hx))
    simp only [List.map_cons, List.sum_cons, cats] at this ⊢
    rw [this, val_cat w (h v List.mem_cons_self) hz]
/-- the locals that are held -/
def asc (w : WP) : Nat → List MV → List (Nat × Value)
  | _, [] => []
  | i, .inr (.inr (.inr _)) :: r => asc w (i + 1) r
  | i, v :: r => (i, val w v) :: asc w (i + 1) r
theorem asc_mem (w : WP) : ∀ (l : List MV) (i : Nat) (q : Nat × Value), q ∈ asc w i l ↔ ∃ j v, l[j]? = some v ∧ v ≠ vU ∧ q = (i + j, val w v) := by
  intro l
  induction l with
  | nil => intro i q; simp [asc]
  | cons v r ih =>
    intro i q
    have step : (∃ j x, r[j]? = some x ∧ x ≠ vU ∧ q = (i + 1 + j, val w x)) ↔ ∃ j x, (v :: r)[j + 1]? = some x ∧ x ≠ vU ∧ q = (i + (j + 1), val w x) := by
      constructor
      · rintro ⟨j, x, a, b, c⟩; exact ⟨j, x, by simpa using a, b, by rw [c]; congr 1; omega⟩
      · rintro ⟨j, x, a, b, c⟩; exact ⟨j, x, by simpa using a, b, by rw [c]; congr 1; omega⟩
    have main : (v ≠ vU ∧ q = (i, val w v)) ∨ q ∈ asc w (i + 1) r ↔ ∃ j x, (v :: r)[j]? = some x ∧ x ≠ vU ∧ q = (i + j, val w x) := by
      rw [ih (i + 1) q, step]
      constructor
      · rintro (⟨a, b⟩ | ⟨j, x, a, b, c⟩)
        · exact ⟨0, v, rfl, a, by rw [b]; rfl⟩
        · exact ⟨j + 1, x, a, b, c⟩
      · rintro ⟨j, x, a, b, c⟩
        cases j with
        | zero => simp at a; subst a; exact Or.inl ⟨b, by rw [c]; rfl⟩
        | succ j => exact Or.inr ⟨j, x, a, b, c⟩
    rw [← main]
    match v with
    | .inl n => simp [asc]
    | .inr (.inl n) => simp [asc]
    | .inr (.inr (.inl n)) => simp [asc]
    | .inr (.inr (.inr ())) => simp [asc]
theorem asc_get {w : WP} {l : List MV} {lsA : Array Slot} {n i : Nat} {v : MV} (h : lv_has lsA n (asc w 0 l)) (hl : l[i]? = some v) (hv : v ≠ vU) : lsA[i]? = some (.val (val w v)) := by
  have := h.2.2 (i, val w v) ((asc_mem w l 0 _).mpr ⟨i, v, hl, hv, by simp⟩)
  exact this
theorem clr_succ (l : List MV) (i : Nat) : clr l (i + 1) = match l[i]? with
    | some (.inr (.inl _)) => l.set i vU
    | _ => l := rfl
theorem clr_get {l : List MV} {i j : Nat} {v : MV} (h : (clr l i)[j]? = some v) (hv : v ≠ vU) : l[j]? = some v ∧ ¬ (j + 1 = i ∧ cat v = 2) := by
  cases i with
  | zero => exact ⟨h, by omega⟩
  | succ i =>
    rw [clr_succ] at h
    split at h
    · rename_i x hx
      by_cases e : j = i
      · subst e
        rw [List.getElem?_set_self (List.getElem?_eq_some_iff.mp hx).1] at h
        cases h
        exact absurd rfl hv
      · rw [List.getElem?_set_ne (fun q => e q.symm)] at h
        exact ⟨h, by omega⟩
    · rename_i hx
      refine ⟨h, fun q => ?_⟩
      have e : j = i := by omega
      subst e
      match v, h, q.2 with
      | .inr (.inl n), h, _ => exact hx n h
theorem clr_len (l : List MV) (i : Nat) : (clr l i).length = l.length := by
  cases i with
  | zero => rfl
  | succ i =>
    rw [clr_succ]
    split
    · simp
    · rfl
theorem asc_st1 {w : WP} {l : List MV} {lsA : Array Slot} {n i : Nat} {v : MV} (hz : w.2.1.category = 1) (ho : ∀ x ∈ l, okL x) (hi : i < l.length) (h : lv_has lsA n ((i, val w v) :: (asc w 0 l).filter (fun q => !(q.1 == i) && !(q.1 + 1 == i && q.2.category == 2)))) : lv_has lsA n (asc w 0 (st1 l i v)) := by
  refine ⟨h.1, h.2.1, fun q hq => h.2.2 q ?_⟩
  obtain ⟨j, x, hx, hu, rfl⟩ := (asc_mem w _ 0 q).mp hq
  unfold st1 at hx
  by_cases e : j = i
  · subst e
    rw [List.getElem?_set_self (by rw [clr_len]; exact hi)] at hx
    cases hx
    simp
  · rw [List.getElem?_set_ne (fun q => e q.symm)] at hx
    obtain ⟨h1, h2⟩ := clr_get hx hu
    refine List.mem_cons_of_mem _ (List.mem_filter.mpr ⟨(asc_mem w l 0 _).mpr ⟨j, x, h1, hu, rfl⟩, ?_⟩)
    have hok : okV x := by
      rcases ho x (List.mem_of_getElem? h1) with q | q
      · exact absurd q hu
      · exact q
    have hc := val_cat w hok hz
    by_cases e2 : j + 1 = i
    · have : ¬ cat x = 2 := fun q => h2 ⟨e2, q⟩
      simp [e, e2, hc, this]
    · simp [e, e2]
theorem asc_st2 {w : WP} {l : List MV} {lsA : Array Slot} {n i : Nat} {v : MV} (hz : w.2.1.category = 1) (ho : ∀ x ∈ l, okL x) (hi : i + 1 < l.length) (h : lv_has lsA n ((i, val w v) :: (asc w 0 l).filter (fun q => !(q.1 == i) && (!(q.1 == i + 1) && !(q.1 + 1 == i && q.2.category == 2))))) : lv_has lsA n (asc w 0 (st2 l i v)) := by
  refine ⟨h.1, h.2.1, fun q hq => h.2.2 q ?_⟩
  obtain ⟨j, x, hx, hu, rfl⟩ := (asc_mem w _ 0 q).mp hq
  unfold st2 at hx
  by_cases e3 : j = i + 1
  · subst e3
    rw [List.getElem?_set_self (by rw [List.length_set, clr_len]; exact hi)] at hx
    cases hx
    exact absurd rfl hu
  · rw [List.getElem?_set_ne (fun q => e3 q.symm)] at hx
    by_cases e : j = i
    · subst e
      rw [List.getElem?_set_self (by rw [clr_len]; omega)] at hx
      cases hx
      simp
    · rw [List.getElem?_set_ne (fun q => e q.symm)] at hx
      obtain ⟨h1, h2⟩ := clr_get hx hu
      refine List.mem_cons_of_mem _ (List.mem_filter.mpr ⟨(asc_mem w l 0 _).mpr ⟨j, x, h1, hu, rfl⟩, ?_⟩)
      have hok : okV x := by
        rcases ho x (List.mem_of_getElem? h1) with q | q
        · exact absurd q hu
        · exact q
      have hc := val_cat w hok hz
      by_cases e2 : j + 1 = i
      · have : ¬ cat x = 2 := fun q => h2 ⟨e2, q⟩
        simp [e, e2, e3, hc, this]
      · simp [e, e2, e3]
theorem okL_st1 {l : List MV} {i : Nat} {v : MV} (ho : ∀ x ∈ l, okL x) (hv : okV v) : ∀ x ∈ st1 l i v, okL x := by
  intro x hx
  unfold st1 at hx
  rcases List.mem_or_eq_of_mem_set hx with h | h
  · cases i with
    | zero => exact ho x h
    | succ i =>
      rw [clr_succ] at h
      split at h
      · rcases List.mem_or_eq_of_mem_set h with h | h
        · exact ho x h
        · exact Or.inl h
      · exact ho x h
  · rw [h]; exact Or.inr hv
theorem okL_st2 {l : List MV} {i : Nat} {v : MV} (ho : ∀ x ∈ l, okL x) (hv : okV v) : ∀ x ∈ st2 l i v, okL x := by
  intro x hx
  unfold st2 at hx
  rcases List.mem_or_eq_of_mem_set hx with h | h
  · exact okL_st1 (i := i) (v := v) ho hv x h
  · exact Or.inl h
theorem st1_len (l : List MV) (i : Nat) (v : MV) : (st1 l i v).length = l.length := by simp [st1, clr_len]
theorem st2_len (l : List MV) (i : Nat) (v : MV) : (st2 l i v).length = l.length := by simp [st2, clr_len]
/-- the locals at entry -/
theorem asc_ent (w : WP) (hz : w.2.1.category = 1) (n : Nat) : ∀ (vs : List MV) (i : Nat), (∀ v ∈ vs, okV v) → asc w i (ent vs ++ List.replicate n vU) = lv_args i (vs.map (val w)) := by
  intro vs
  induction vs with
  | nil =>
    intro i _
    show asc w i (List.replicate n vU) = []
    induction n generalizing i with
    | zero => rfl
    | succ n ih => exact ih (i + 1)
  | cons v r ih =>
    intro i ho
    have hr := fun j => ih j (fun x hx => ho x (List.mem_cons_of_mem _ hx))
    have hv := ho v List.mem_cons_self
    have hc := val_cat w hv hz
    match v, hv, hc with
    | .inl x, _, hc => simp only [ent, List.cons_append, asc, List.map_cons, lv_args]; rw [hr]; rfl
    | .inr (.inl x), _, hc => simp only [ent, List.cons_append, asc, List.map_cons, lv_args]; rw [hr]; rfl
    | .inr (.inr (.inl x)), _, hc =>
      simp only [ent, List.cons_append, asc, List.map_cons, lv_args]
      rw [hr, hc]
      rfl
theorem ent_len (w : WP) (hz : w.2.1.category = 1) : ∀ (vs : List MV), (∀ v ∈ vs, okV v) → (lg_sl (vs.map (val w))).length = (ent vs).length := by
  intro vs
  induction vs with
  | nil => intro _; rfl
  | cons v r ih =>
    intro ho
    have hr := ih (fun x hx => ho x (List.mem_cons_of_mem _ hx))
    have hv := ho v List.mem_cons_self
    have hc := val_cat w hv hz
    have e : (lg_sl ((v :: r).map (val w))).length = (if (val w v).category = 2 then 2 else 1) + (lg_sl (r.map (val w))).length := by
      simp only [lg_sl, List.map_cons, List.flatMap_cons, List.length_append]
      by_cases q : (val w v).category = 2 <;> simp [q]
    rw [e, hc, hr]
    match v, hv with
    | .inl x, _ => simp [ent, cat]; omega
    | .inr (.inl x), _ => simp [ent, cat]; omega
    | .inr (.inr (.inl x)), _ => simp [ent, cat]; omega
theorem okL_entry {k : Nat} {vs : List MV} (ho : ∀ v ∈ vs, okV v) : ∀ x ∈ entry k vs, okL x := by
  intro x hx
  rcases List.mem_append.mp hx with h | h
  · clear hx
    induction vs with
    | nil => cases h
    | cons v r ih =>
      have ih := ih (fun x hx => ho x (List.mem_cons_of_mem _ hx))
      have hv := ho v List.mem_cons_self
      match v, hv, h with
      | .inl y, hv, h => rcases List.mem_cons.mp h with q | q; exact Or.inr (by rw [q]; exact hv); exact ih q
      | .inr (.inl y), hv, h =>
        rcases List.mem_cons.mp h with q | q
        · exact Or.inr (by rw [q]; exact hv)
        · rcases List.mem_cons.mp q with q | q
          · exact Or.inl q
          · exact ih q
      | .inr (.inr (.inl y)), hv, h => rcases List.mem_cons.mp h with q | q; exact Or.inr (by rw [q]; exact hv); exact ih q
  · exact Or.inl (List.eq_of_mem_replicate h)
/-- what stays: the statics, the texts, the arrays that aren't written, the script -/
def gV (w : WP) (e : Nat × Nat × Nat × Nat) : Value := if e.2.2.1 = 0 then .int (Int32.ofInt e.2.2.2) else val w (.inr (.inr (.inl e.2.2.2)))
def RM (w : WP) (A : Nat → Prop) (U : State) (H : Heap) : Prop :=
  (∀ q ∈ gL.zip gN, va_Z q.2.1 q.2.2.1 q.2.2.2 (gV w q.1) A U H) ∧
  (∀ a, a < nC → (mk a).1 = 110 → va_T .int (w.1 a) (mk a).2 (fun j => .int (Int32.ofInt (ro a j))) A U H) ∧
  (∀ a, a < nC → (mk a).1 = 111 → va_T .byte (w.1 a) (mk a).2 (fun j => .int (Int32.ofInt (ro a j))) A U H) ∧
  (∀ a, a < nC → (mk a).1 = 13 → va_O "java/lang/String" (w.1 a) A U H ∧ va_OF "java/lang/String" "value" "[B" (.ref (w.1 (mr a 0))) (w.1 a) A U H ∧ va_OF "java/lang/String" "coder" "B" (.int 0) (w.1 a) A U H) ∧
  (∀ e ∈ rL, ∃ tx, vk_R (cnm e.1) e.2.1 tx (w.1 e.2.2) U) ∧
  (va_X (w.1 scC) w.2.2.2.2.2 (fun j => Int32.ofInt (w.2.2.2.2.1 j)) U H ∧ w.1 scC < H.size ∧ ¬ A (w.1 scC))
theorem RM.kept {w : WP} {A : Nat → Prop} {U : State} {H H1 : Heap} (h : RM w A U H) (hz : H.size ≤ H1.size) (hq : ∀ a : Nat, a < H.size → ¬ A a → H1[a]? = H[a]?) : RM w A U H1 := by
  obtain ⟨h1, h2, h3, h4, h5, h6, h7, h8⟩ := h
  exact ⟨fun q hm => (h1 q hm).kept hq, fun a ha hk => (h2 a ha hk).kept hq, fun a ha hk => (h3 a ha hk).kept hq, fun a ha hk => ⟨(h4 a ha hk).1.kept hq, (h4 a ha hk).2.1.kept hq, (h4 a ha hk).2.2.kept hq⟩, h5, h6.kept (hq _ h7 h8), by omega, h8⟩
theorem RM.warm {w : WP} {A : Nat → Prop} {u U : State} {H : Heap} (hW : u.WarmedH U.vm) (h : RM w A u H) : RM w A U H := by
  obtain ⟨h1, h2, h3, h4, h5, h6, h7, h8⟩ := h
  have hm := hW.alike
  exact ⟨fun q hq => va_Z.moved hm (h1 q hq), fun a ha hk => va_T.moved hm (h2 a ha hk), fun a ha hk => va_T.moved hm (h3 a ha hk), fun a ha hk => ⟨va_O.moved hm (h4 a ha hk).1, va_OF.moved hm (h4 a ha hk).2.1, va_OF.moved hm (h4 a ha hk).2.2⟩, fun e he => ⟨_, vk_R.warm hW (h5 e he).choose_spec⟩, va_X.moved hm h6, h7, h8⟩
theorem RM.same {w : WP} {A : Nat → Prop} {u U : State} {H : Heap} (hv : U.vm = u.vm) (h : RM w A u H) : RM w A U H := by
  obtain ⟨h1, h2, h3, h4, h5, h6, h7, h8⟩ := h
  have hm : u.vm.Alike U.vm := by rw [hv]; exact Vm.Alike.refl _
  exact ⟨fun q hq => va_Z.moved hm (h1 q hq), fun a ha hk => va_T.moved hm (h2 a ha hk), fun a ha hk => va_T.moved hm (h3 a ha hk), fun a ha hk => ⟨va_O.moved hm (h4 a ha hk).1, va_OF.moved hm (h4 a ha hk).2.1, va_OF.moved hm (h4 a ha hk).2.2⟩, fun e he => ⟨_, vk_R.same hv (h5 e he).choose_spec⟩, va_X.moved hm h6, h7, h8⟩
/-- the heap now, against the heap at the method's entry -/
def WR (w : WP) (A : Nat → Prop) (s : State) (h : MH) (H : Heap) (locs : List Loc) : Prop :=
  va_P w.2.2.1 mcl (wS w h) H ∧ va_D A (wS w h) ∧ va_S A s.heap H locs ∧ okH h ∧ h scC = w.2.2.2.2.1 ∧ slen h = w.2.2.2.2.2
