/-! cells: reading and writing them in the world -/
theorem cE_obj {w : WP} {g : Nat → Int} {a : Nat} (h : (mk a).1 < 13) : cE w g a = .inr ((mk a).1, (List.range (nF (mk a).1)).map (fun j => fvl w g a (mk a).1 j)) := by
  unfold cE
  split
  · omega
  · omega
  · omega
  · omega
  · omega
  · rfl
theorem cE_100 {w : WP} {g : Nat → Int} {a : Nat} (h : (mk a).1 = 100) : cE w g a = .inl (w.2.2.2.1 0, (mk a).2, .inl (fun i => Int32.ofInt (g i))) := by
  unfold cE
  rw [h]
  rfl
theorem cE_101 {w : WP} {g : Nat → Int} {a : Nat} (h : (mk a).1 = 101) : cE w g a = .inl (w.2.2.2.1 1, (mk a).2, .inl (fun i => Int32.ofInt (g i))) := by
  unfold cE
  rw [h]
  rfl
theorem cE_102 {w : WP} {g : Nat → Int} {a : Nat} (h : (mk a).1 = 102) : cE w g a = .inl (w.2.2.2.1 2, (mk a).2, .inl (fun i => Int32.ofInt (g i))) := by
  unfold cE
  rw [h]
  rfl
theorem cE_103 {w : WP} {g : Nat → Int} {a : Nat} (h : (mk a).1 = 103) : cE w g a = .inl (w.2.2.2.1 3, (mk a).2, .inr (.inl (fun i => Int64.ofInt (g i)))) := by
  unfold cE
  rw [h]
  rfl
theorem cE_104 {w : WP} {g : Nat → Int} {a : Nat} (h : (mk a).1 = 104) : cE w g a = .inl (w.2.2.2.1 4, (mk a).2, .inr (.inr (.inr (.inr (fun i => if i < (mk a).2 then some (w.1 (mr a 0 + i)) else none))))) := by
  unfold cE
  rw [h]
  rfl
theorem mcl_len : mcl.length = 13 := rfl
theorem mcl_get {c : Nat} (h : c < 13) : mcl[c]? = some (mcl.getD c dC0) := by
  rw [List.getD_eq_getElem?_getD, List.getElem?_eq_getElem (by rw [mcl_len]; exact h)]
  rfl
theorem mcl_in {c : Nat} (h : c < 13) : mcl.getD c dC0 ∈ mcl := List.mem_of_getElem? (mcl_get h)
/-- entries of fields: of our classes, or a text's -/
theorem fL_ok : ∀ e ∈ fL, (e.2.2.1 < 13 ∧ e.2.2.2 < nF e.2.2.1 ∧ e.2.2.2 < 60) ∨ (e.2.2.1 = 13 ∧ (e.2.2.2 = 0 ∨ e.2.2.2 = 1)) := by decide +kernel
theorem ft_str : ft 13 0 = 2 ∧ ft 13 1 = 4 := by decide +kernel
/-- the fields that are written: their types, none is final -/
def chkP (c j : Nat) : Bool := match ft c j with
  | 0 => decide ((mty.getD c (fun _ => .int)) j = .int) && !((mcl.getD c dC0).2.1 j).2.2.2
  | 5 => decide ((mty.getD c (fun _ => .int)) j = .boolean) && !((mcl.getD c dC0).2.1 j).2.2.2
  | 1 => decide ((mty.getD c (fun _ => .int)) j = .long) && !((mcl.getD c dC0).2.1 j).2.2.2
  | 3 => decide ((mty.getD c (fun _ => .int)) j = .array .byte) && !((mcl.getD c dC0).2.1 j).2.2.2
  | 2 => true
  | _ => false
theorem ok_p : ∀ c, c < 13 → ∀ j, j < nF c → chkP c j = true := by decide +kernel
theorem ft_not4 {c j : Nat} (hc : c < 13) (hj : j < nF c) : ft c j = 0 ∨ ft c j = 5 ∨ ft c j = 1 ∨ ft c j = 2 ∨ ft c j = 3 := by
  have h := ok_p c hc j hj
  unfold chkP at h
  split at h <;> first | omega | cases h
theorem fd_ok {c : Nat} (hc : c < 13) {r : vw_C} (hr : mcl.getD c dC0 = r) : (∀ k, k < r.2.2 → parseFieldDescriptor (r.2.1 k).2.2.1 = some ((mty.getD c (fun _ => .int)) k)) ∧ ∀ a, a < r.2.2 → ∀ b, b < r.2.2 → a ≠ b → (r.2.1 a).2.1 ≠ (r.2.1 b).2.1 := by
  have h := ok_ff c hc
  unfold chkF at h
  rw [show mcl.getD c ("", fun _ => ("", "", "", false), 0) = r from hr] at h
  have h1 := fun a ha => List.all_eq_true.mp h a (List.mem_range.mpr ha)
  simp only [Bool.and_eq_true, decide_eq_true_eq] at h1
  refine ⟨fun k hk => (h1 k hk).2, fun a ha b hb hab => ?_⟩
  have h2 := List.all_eq_true.mp (h1 a ha).1 b (List.mem_range.mpr hb)
  simp only [Bool.or_eq_true, decide_eq_true_eq] at h2
  rcases h2 with h2 | h2
  · exact absurd h2 hab
  · exact h2
theorem okS_i {a j : Nat} {x : Int} (h : okS a j x) (h1 : (mk a).1 ≠ 103) (h2 : ft (mk a).1 j ≠ 1) (h3 : ft (mk a).1 j ≠ 3) : inI x := by
  unfold okS at h
  split at h
  · exact absurd ‹_› h1
  · split at h
    · exact absurd ‹_› h2
    · exact absurd ‹_› h3
    · exact h
theorem okS_l {a j : Nat} {x : Int} (h : okS a j x) (h2 : (mk a).1 = 103 ∨ ft (mk a).1 j = 1) : inL x := by
  unfold okS at h
  split at h
  · exact h
  · split at h
    · exact h
    · rename_i q1 q2; rcases h2 with q | q
      · exact absurd q ‹_›
      · omega
    · rename_i q1 q2; rcases h2 with q | q
      · exact absurd q ‹_›
      · exact absurd q ‹_›
theorem okS_r {a j : Nat} {x : Int} (h : okS a j x) (h1 : (mk a).1 ≠ 103) (h2 : ft (mk a).1 j = 3) : 0 ≤ x ∧ (mk x.toNat).1 = 101 := by
  unfold okS at h
  split at h
  · exact absurd ‹_› h1
  · split at h
    · omega
    · exact h
    · exact absurd h2 ‹_›
theorem ft_arr {c j : Nat} (h : 14 ≤ c) : ft c j = 9 := by
  unfold ft
  have hl : ftT.length = 14 := by decide +kernel
  rw [List.getD_eq_getElem?_getD (l := ftT), List.getElem?_eq_none (by omega)]
  rfl
/-- a place is written: the world keeps its form -/
theorem WR_up {w : WP} {A : Nat → Prop} {s : State} {h : MH} {H H1 : Heap} {locs locs1 : List Loc} {a j : Nat} {x : Int} {E : va_E} (hw : WR w A s h H locs) (ha : a < nM) (hE : E = cE w (fun y => if y = j then x else h a y) a) (hx : okS a j x)
    (hP : va_P w.2.2.1 mcl ((wS w h).set a (w.1 a, E)) H1) (hD : va_D A ((wS w h).set a (w.1 a, E))) (hS : va_S A s.heap H1 locs1) : WR w A s (up h a j x) H1 locs1 := by
  have hsc : a ≠ scC := by have : nM ≤ scC := by decide +kernel
                           omega
  have h998 : a ≠ 998 := by have : nM ≤ 998 := by decide +kernel
                            omega
  have e : (wS w h).set a (w.1 a, E) = wS w (up h a j x) := by
    rw [hE, ← up_at h a j x]
    exact wS_set ha (fun b hb => up_ne hb)
  rw [e] at hP hD
  refine ⟨hP, hD, hS, fun b i => ?_, ?_, ?_⟩
  · by_cases q : b = a
    · subst q
      by_cases q2 : i = j
      · subst q2
        simpa [up] using hx
      · simpa [up, q2] using hw.2.2.2.1 b i
    · rw [up_ne q]; exact hw.2.2.2.1 b i
  · rw [up_ne (Ne.symm hsc)]; exact hw.2.2.2.2.1
  · have : slen (up h a j x) = slen h := by unfold slen; rw [up_ne (Ne.symm h998)]
    rw [this]; exact hw.2.2.2.2.2
theorem WR_cpy {w : WP} {A : Nat → Prop} {s : State} {h : MH} {H H1 : Heap} {locs locs1 : List Loc} {f : Nat → Int} {d sp dp n : Nat} {E : va_E} (hw : WR w A s h H locs) (hd : (mk d).1 = 100) (hE : E = cE w (fun y => if dp ≤ y ∧ y < dp + n then f (sp + (y - dp)) else h d y) d) (hf : ∀ i, inI (f i))
    (hP : va_P w.2.2.1 mcl ((wS w h).set d (w.1 d, E)) H1) (hD : va_D A ((wS w h).set d (w.1 d, E))) (hS : va_S A s.heap H1 locs1) : WR w A s (cpy h f d sp dp n) H1 locs1 := by
  have ha : d < nM := (mk_mut (by omega)).1
  have hsc : d ≠ scC := by have : nM ≤ scC := by decide +kernel
                           omega
  have h998 : d ≠ 998 := by have : nM ≤ 998 := by decide +kernel
                            omega
  have e : (wS w h).set d (w.1 d, E) = wS w (cpy h f d sp dp n) := by
    rw [hE, ← cpy_at h f d sp dp n]
    exact wS_set ha (fun b hb => cpy_ne hb)
  rw [e] at hP hD
  refine ⟨hP, hD, hS, fun b i => ?_, ?_, ?_⟩
  · by_cases q : b = d
    · subst q
      have h9 : ∀ x, inI x → okS b i x := fun x hx => by
        unfold okS
        rw [hd]
        show (match ft 100 i with
          | 1 => inL x
          | 3 => 0 ≤ x ∧ (mk x.toNat).1 = 101
          | _ => inI x)
        rw [ft_arr (by omega)]
        exact hx
      by_cases q2 : dp ≤ i ∧ i < dp + n
      · have : cpy h f b sp dp n b i = f (sp + (i - dp)) := by simp [cpy, q2]
        rw [this]; exact h9 _ (hf _)
      · have : cpy h f b sp dp n b i = h b i := by simp [cpy, q2]
        rw [this]; exact hw.2.2.2.1 b i
    · rw [cpy_ne q]; exact hw.2.2.2.1 b i
  · rw [cpy_ne (Ne.symm hsc)]; exact hw.2.2.2.2.1
  · have : slen (cpy h f d sp dp n) = slen h := by unfold slen; rw [cpy_ne (Ne.symm h998)]
    rw [this]; exact hw.2.2.2.2.2
theorem obj_set {w : WP} {g : Nat → Int} {a j : Nat} {x : Int} {v : Value} (hc : (mk a).1 < 13) (hj : j < nF (mk a).1) (hv : v = fvl w (fun y => if y = j then x else g y) a (mk a).1 j) :
    (.inr ((mk a).1, ((List.range (nF (mk a).1)).map (fun j => fvl w g a (mk a).1 j)).set j v) : va_E) = cE w (fun y => if y = j then x else g y) a := by
  rw [cE_obj hc]
  congr 2
  apply List.ext_getElem?
  intro i
  by_cases q : i = j
  · subst q
    rw [List.getElem?_set_self (by simpa using hj), List.getElem?_map, List.getElem?_range hj, hv]
    rfl
  · rw [List.getElem?_set_ne (fun z => q z.symm), List.getElem?_map, List.getElem?_map]
    by_cases hi : i < nF (mk a).1
    · rw [List.getElem?_range hi]
      simp only [Option.map_some]
      unfold fvl
      simp only [if_neg q]
    · rw [List.getElem?_eq_none (by simpa using hi)]
      rfl
theorem scr_only : ∀ a, a < nC → (mk a).1 = 112 → a = scC := by decide +kernel
theorem ro_in (a j : Nat) : inI (ro a j) := by
  have h : ∀ r ∈ oT, ∀ x ∈ r, -2147483648 ≤ x ∧ x ≤ 2147483647 := by decide +kernel
  unfold ro inI
  rw [List.getD_eq_getElem?_getD, List.getD_eq_getElem?_getD]
  cases e : oT[a - nM]? with
  | none => simp
  | some r =>
    simp only [Option.getD_some]
    cases e2 : r[j]? with
    | none => simp
    | some x => exact h r (List.mem_of_getElem? e) x (List.mem_of_getElem? e2)
theorem scr_len {w : WP} {A : Nat → Prop} {s : State} {h : MH} {H : Heap} {locs : List Loc} (hw : WR w A s h H locs) : slen h ≤ 2147483647 := by
  have h1 : inI (h 998 0) := okS_i (hw.2.2.2.1 998 0) (by decide +kernel) (by decide +kernel) (by decide +kernel)
  unfold inI at h1
  unfold slen
  omega
