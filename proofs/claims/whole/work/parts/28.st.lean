/-! one number of a state is changed -/
def su (c : Nat → Int) (j : Nat) (v : Int) : Nat → Int := fun y => if y = j then v else c y
theorem su_s (c : Nat → Int) (j : Nat) (v : Int) : su c j v j = v := if_pos rfl
theorem su_i {c : Nat → Int} {j i : Nat} {v : Int} (e : i ≠ j) : su c j v i = c i := if_neg e
theorem up_row (h : MH) (a j : Nat) (v : Int) : up h a j v a = su (h a) j v := by
  funext y
  unfold up su
  rw [if_pos rfl]
theorem stR_hay {c v : Nat → Int} (r : stR c v) (x a : Int) (h0 : 0 ≤ x) (h1 : x < 8) : stR (su c (21 + x).toNat a) (su v x.toNat a) := by
  obtain ⟨r1, r2, r3⟩ := r
  refine ⟨fun f hf => ?_, fun k hk => ?_, ?_⟩
  · have := r1 f hf
    unfold su
    by_cases q : (f : Int) = x
    · simp (disch := omega) only [if_pos, if_neg]
      exact ⟨trivial, this.2⟩
    · simp (disch := omega) only [if_neg]
      exact this
  · unfold su
    simp (disch := omega) only [if_neg]
    exact r2 k hk
  · unfold su
    simp (disch := omega) only [if_neg]
    exact r3
theorem stR_news {c v : Nat → Int} (r : stR c v) (x a : Int) (h0 : 0 ≤ x) (h1 : x < 8) : stR (su c (29 + x).toNat a) (su v (8 + x).toNat a) := by
  obtain ⟨r1, r2, r3⟩ := r
  refine ⟨fun f hf => ?_, fun k hk => ?_, ?_⟩
  · have := r1 f hf
    unfold su
    by_cases q : (f : Int) = x
    · simp (disch := omega) only [if_pos, if_neg]
      exact ⟨this.1, trivial⟩
    · simp (disch := omega) only [if_neg]
      exact this
  · unfold su
    simp (disch := omega) only [if_neg]
    exact r2 k hk
  · unfold su
    simp (disch := omega) only [if_neg]
    exact r3
theorem stR_at {c v : Nat → Int} (r : stR c v) (x a : Int) (h0 : 0 ≤ x) (h1 : x < 5) : stR (su c (6 + x).toNat a) (su v (16 + 3 * x).toNat a) := by
  obtain ⟨r1, r2, r3⟩ := r
  refine ⟨fun f hf => ?_, fun k hk => ?_, ?_⟩
  · unfold su
    simp (disch := omega) only [if_neg]
    exact r1 f hf
  · have := r2 k hk
    unfold su
    by_cases q : (k : Int) = x
    · simp (disch := omega) only [if_pos, if_neg]
      exact ⟨trivial, this.2⟩
    · simp (disch := omega) only [if_neg]
      exact this
  · unfold su
    simp (disch := omega) only [if_neg]
    exact r3
theorem stR_hurt {c v : Nat → Int} (r : stR c v) (x a : Int) (h0 : 0 ≤ x) (h1 : x < 5) : stR (su c (11 + x).toNat a) (su v (16 + 3 * x + 1).toNat a) := by
  obtain ⟨r1, r2, r3⟩ := r
  refine ⟨fun f hf => ?_, fun k hk => ?_, ?_⟩
  · unfold su
    simp (disch := omega) only [if_neg]
    exact r1 f hf
  · have := r2 k hk
    unfold su
    by_cases q : (k : Int) = x
    · simp (disch := omega) only [if_pos, if_neg]
      exact ⟨this.1, trivial, this.2.2⟩
    · simp (disch := omega) only [if_neg]
      exact this
  · unfold su
    simp (disch := omega) only [if_neg]
    exact r3
theorem stR_late {c v : Nat → Int} (r : stR c v) (x a : Int) (h0 : 0 ≤ x) (h1 : x < 5) : stR (su c (16 + x).toNat a) (su v (16 + 3 * x + 2).toNat a) := by
  obtain ⟨r1, r2, r3⟩ := r
  refine ⟨fun f hf => ?_, fun k hk => ?_, ?_⟩
  · unfold su
    simp (disch := omega) only [if_neg]
    exact r1 f hf
  · have := r2 k hk
    unfold su
    by_cases q : (k : Int) = x
    · simp (disch := omega) only [if_pos, if_neg]
      exact ⟨this.1, this.2.1, trivial⟩
    · simp (disch := omega) only [if_neg]
      exact this
  · unfold su
    simp (disch := omega) only [if_neg]
    exact r3
theorem stR_x {c v : Nat → Int} (r : stR c v) (j : Nat) (a : Int) (hj : j < 5) : stR (su c j a) (su v (31 + j) a) := by
  obtain ⟨r1, r2, r3⟩ := r
  refine ⟨fun f hf => ?_, fun k hk => ?_, ?_⟩
  · unfold su
    simp (disch := omega) only [if_neg]
    exact r1 f hf
  · unfold su
    simp (disch := omega) only [if_neg]
    exact r2 k hk
  · obtain ⟨s1, s2, s3, s4, s5, s6⟩ := r3
    unfold su
    refine ⟨?_, ?_, ?_, ?_, ?_, ?_⟩
    · by_cases q : j = 0
      · rw [if_pos (by omega), if_pos (by omega)]
      · rw [if_neg (by omega), if_neg (by omega), s1]
    · by_cases q : j = 1
      · rw [if_pos (by omega), if_pos (by omega)]
      · rw [if_neg (by omega), if_neg (by omega), s2]
    · by_cases q : j = 2
      · rw [if_pos (by omega), if_pos (by omega)]
      · rw [if_neg (by omega), if_neg (by omega), s3]
    · by_cases q : j = 3
      · rw [if_pos (by omega), if_pos (by omega)]
      · rw [if_neg (by omega), if_neg (by omega), s4]
    · by_cases q : j = 4
      · rw [if_pos (by omega), if_pos (by omega)]
      · rw [if_neg (by omega), if_neg (by omega), s5]
    · simp (disch := omega) only [if_neg]
      exact s6
theorem stOK_hay {f k b : Int} {c : Nat → Int} (r : stOK f k b c) (x a : Int) (h0 : 0 ≤ x) (h1 : x < f) (ha : 0 ≤ a ∧ a ≤ 9) (hk : k ≤ 5) (hf : f ≤ 8) : stOK f k b (su c (21 + x).toNat a) := by
  obtain ⟨r1, r2, r3, r4, r5⟩ := r
  unfold su
  refine ⟨?_, fun i hi => ?_, fun i hi h5 => ?_, fun i hi => ?_, fun i hi h5 => ?_⟩
  · simp (disch := omega) only [if_neg]; exact r1
  · simp (disch := omega) only [if_neg]; exact r2 i hi
  · simp (disch := omega) only [if_neg]; exact r3 i hi h5
  · by_cases q : (i : Int) = x
    · simp (disch := omega) only [if_neg, if_pos]; exact ⟨ha, (r4 i hi).2⟩
    · simp (disch := omega) only [if_neg]; exact r4 i hi
  · simp (disch := omega) only [if_neg]; exact r5 i hi h5
theorem stOK_news {f k b : Int} {c : Nat → Int} (r : stOK f k b c) (x a : Int) (h0 : 0 ≤ x) (h1 : x < f) (ha : 0 ≤ a ∧ a ≤ 63) (hk : k ≤ 5) (hf : f ≤ 8) : stOK f k b (su c (29 + x).toNat a) := by
  obtain ⟨r1, r2, r3, r4, r5⟩ := r
  unfold su
  refine ⟨?_, fun i hi => ?_, fun i hi h5 => ?_, fun i hi => ?_, fun i hi h5 => ?_⟩
  · simp (disch := omega) only [if_neg]; exact r1
  · simp (disch := omega) only [if_neg]; exact r2 i hi
  · simp (disch := omega) only [if_neg]; exact r3 i hi h5
  · by_cases q : (i : Int) = x
    · simp (disch := omega) only [if_neg, if_pos]; exact ⟨(r4 i hi).1, ha⟩
    · simp (disch := omega) only [if_neg]; exact r4 i hi
  · simp (disch := omega) only [if_neg]; exact r5 i hi h5
theorem stOK_at {f k b : Int} {c : Nat → Int} (r : stOK f k b c) (x a : Int) (h0 : 0 ≤ x) (h1 : x < k) (ha : 0 ≤ a ∧ a < f) (hk : k ≤ 5) (hf : f ≤ 8) : stOK f k b (su c (6 + x).toNat a) := by
  obtain ⟨r1, r2, r3, r4, r5⟩ := r
  unfold su
  refine ⟨?_, fun i hi => ?_, fun i hi h5 => ?_, fun i hi => ?_, fun i hi h5 => ?_⟩
  · simp (disch := omega) only [if_neg]; exact r1
  · by_cases q : (i : Int) = x
    · simp (disch := omega) only [if_neg, if_pos]; exact ⟨ha, (r2 i hi).2⟩
    · simp (disch := omega) only [if_neg]; exact r2 i hi
  · simp (disch := omega) only [if_neg]; exact r3 i hi h5
  · simp (disch := omega) only [if_neg]; exact r4 i hi
  · simp (disch := omega) only [if_neg]; exact r5 i hi h5
theorem stOK_hurt {f k b : Int} {c : Nat → Int} (r : stOK f k b c) (x a : Int) (h0 : 0 ≤ x) (h1 : x < k) (ha : 0 ≤ a ∧ a ≤ 99) (hk : k ≤ 5) (hf : f ≤ 8) : stOK f k b (su c (11 + x).toNat a) := by
  obtain ⟨r1, r2, r3, r4, r5⟩ := r
  unfold su
  refine ⟨?_, fun i hi => ?_, fun i hi h5 => ?_, fun i hi => ?_, fun i hi h5 => ?_⟩
  · simp (disch := omega) only [if_neg]; exact r1
  · by_cases q : (i : Int) = x
    · simp (disch := omega) only [if_neg, if_pos]; exact ⟨(r2 i hi).1, ha, (r2 i hi).2.2⟩
    · simp (disch := omega) only [if_neg]; exact r2 i hi
  · simp (disch := omega) only [if_neg]; exact r3 i hi h5
  · simp (disch := omega) only [if_neg]; exact r4 i hi
  · simp (disch := omega) only [if_neg]; exact r5 i hi h5
theorem stOK_late {f k b : Int} {c : Nat → Int} (r : stOK f k b c) (x a : Int) (h0 : 0 ≤ x) (h1 : x < k) (ha : 0 ≤ a ∧ a ≤ 2) (hk : k ≤ 5) (hf : f ≤ 8) : stOK f k b (su c (16 + x).toNat a) := by
  obtain ⟨r1, r2, r3, r4, r5⟩ := r
  unfold su
  refine ⟨?_, fun i hi => ?_, fun i hi h5 => ?_, fun i hi => ?_, fun i hi h5 => ?_⟩
  · simp (disch := omega) only [if_neg]; exact r1
  · by_cases q : (i : Int) = x
    · simp (disch := omega) only [if_neg, if_pos]; exact ⟨(r2 i hi).1, (r2 i hi).2.1, ha⟩
    · simp (disch := omega) only [if_neg]; exact r2 i hi
  · simp (disch := omega) only [if_neg]; exact r3 i hi h5
  · simp (disch := omega) only [if_neg]; exact r4 i hi
  · simp (disch := omega) only [if_neg]; exact r5 i hi h5
theorem stOK_x {f k b : Int} {c : Nat → Int} (r : stOK f k b c) (j : Nat) (a : Int) (hj : j < 5) (hk : k ≤ 5) (hf : f ≤ 8) (a0 : j = 0 → 0 ≤ a ∧ a ≤ 99) (a1 : j = 1 → 0 ≤ a ∧ a ≤ 9) (a2 : j = 2 → a = 0 ∨ a = 1) (a3 : j = 3 → 0 ≤ a ∧ a ≤ 9) (a4 : j = 4 → 0 ≤ a ∧ a ≤ 9999) : stOK f k b (su c j a) := by
  obtain ⟨⟨s0, s1, s2, s3, s4, s5⟩, r2, r3, r4, r5⟩ := r
  unfold su
  refine ⟨⟨?_, ?_, ?_, ?_, ?_, ?_⟩, fun i hi => ?_, fun i hi h5 => ?_, fun i hi => ?_, fun i hi h5 => ?_⟩
  · by_cases q : 0 = j
    · simp only [if_pos q]; exact a0 q.symm
    · simp only [if_neg q]; exact s0
  · by_cases q : 1 = j
    · simp only [if_pos q]; exact a1 q.symm
    · simp only [if_neg q]; exact s1
  · by_cases q : 2 = j
    · simp only [if_pos q]; exact a2 q.symm
    · simp only [if_neg q]; exact s2
  · by_cases q : 3 = j
    · simp only [if_pos q]; exact a3 q.symm
    · simp only [if_neg q]; exact s3
  · by_cases q : 4 = j
    · simp only [if_pos q]; exact a4 q.symm
    · simp only [if_neg q]; exact s4
  · simp (disch := omega) only [if_neg]; exact s5
  · simp (disch := omega) only [if_neg]; exact r2 i hi
  · simp (disch := omega) only [if_neg]; exact r3 i hi h5
  · simp (disch := omega) only [if_neg]; exact r4 i hi
  · simp (disch := omega) only [if_neg]; exact r5 i hi h5
/-! the acts' frames -/
theorem keepC_mix {hc g : MH} (h0 : hc 11 2 < 40) : keepC (mix hc g) = mix (keepC hc) g := by
  unfold keepC
  have e1 : mix hc g 11 = hc 11 := rfl
  have e2 : mix hc g 91 = hc 91 := rfl
  rw [e1, e2, cpy_mixc (by omega), up_mixc (by omega), up_mixc (by omega)]
theorem remM_mix {g hm : MH} : remM (mix g hm) = mix g (remM hm) := by
  unfold remM
  have e1 : mix g hm 97 = hm 97 := rfl
  have e2 : mix g hm 110 = hm 110 := rfl
  have e3 : mix g hm 112 = hm 112 := rfl
  rw [e1, e2, e3]
  split
  · rw [cpy_mixm (by omega), up_mixm (by omega), cpy_mixm (by omega), up_mixm (by omega)]
  · rw [cpy_mixm (by omega), up_mixm (by omega)]
theorem keepC_ne {h : MH} {a : Nat} (h0 : h 11 2 < 40) (e : a ≠ 11) (e2 : ¬ (51 ≤ a ∧ a < 51 + 40)) : keepC h a = h a := by
  unfold keepC
  rw [up_ne e, up_ne e, cpy_ne (by omega)]
theorem remM_ne {h : MH} {a : Nat} (e : a ≠ 97) (e2 : a ≠ 112) : remM h a = h a := by
  unfold remM
  split
  · rw [up_ne e, cpy_ne e2, up_ne e, cpy_ne e2]
  · rw [up_ne e, cpy_ne e2]
theorem remM_f {h : MH} {j : Nat} (e : j ≠ 37) : remM h 97 j = h 97 j := by
  unfold remM
  split
  · rw [up_i e, cpy_ne (by omega), up_i e, cpy_ne (by omega)]
  · rw [up_i e, cpy_ne (by omega)]
theorem hist_n {b : Int} {h : MH} (i : Inv0 b h) : (0 ≤ h 11 0 ∧ h 11 0 ≤ 40) ∧ (0 ≤ h 11 2 ∧ h 11 2 < 40) ∧ h 97 37 = h 11 0 := by
  obtain ⟨-, -, -, ⟨L, M, -, q, -⟩, -⟩ := (Inv0_iff b h).mp i
  exact q
theorem iNow_mono {b b2 : Int} {h : MH} (hb : b ≤ b2) (hf : h 2 3 ≤ 8) (hk : h 2 4 ≤ 5) (i : iNow b h) : iNow b2 h := by
  obtain ⟨L, M, ⟨r1, r2, r3, r4⟩, c, rows, hM⟩ := i
  exact ⟨L, M, ⟨r1, stOK_congr hb (fun _ _ => rfl) hf hk r2, r3, r4⟩, c, fun i hi => ⟨(rows i hi).1, stOK_congr hb (fun _ _ => rfl) hf hk (rows i hi).2.1, (rows i hi).2.2⟩, hM⟩
theorem Inv_mono {b b2 : Int} {h : MH} (hb : b ≤ b2) (i : Inv0 b h) : Inv0 b2 h := by
  obtain ⟨l1, l2, l3, l4, l5, l6, l7⟩ := lg_n i
  exact Inv_but i hb (fun _ _ _ _ _ _ _ _ _ _ => rfl) (iNow_mono hb l4 l6 ((Inv0_iff _ _).mp i).2.2.2.1)
theorem Pr_mono {b b2 b3 : Int} {kc km : Nat} {ac am : List MV} {h : MH} (hb : b2 ≤ b3) (q : Pr b b2 kc km ac am h) : Pr b b3 kc km ac am h := by
  obtain ⟨v, h1, h2, q1, q2, q3, q4⟩ := q
  exact ⟨v, h1, h2, q1, q2, Inv_mono hb q3, q4⟩
theorem remM_0 (h : MH) : remM (up h 97 0 0) = up (remM h) 97 0 0 := by
  have u : ∀ (g : MH) (v : Int), up (up g 97 0 0) 97 37 v = up (up g 97 37 v) 97 0 0 := by
    intro g v
    funext a j
    by_cases q : a = 97
    · subst q
      by_cases q1 : j = 0
      · subst q1; rw [up_i (by omega), up_s, up_s]
      · by_cases q2 : j = 37
        · subst q2; rw [up_s, up_i (by omega), up_s]
        · rw [up_i q2, up_i q1, up_i q1, up_i q2]
    · rw [up_a q, up_a q, up_a q, up_a q]
  have c : ∀ (g : MH) (f : Nat → Int) (sp dp n : Nat), cpy (up g 97 0 0) f 112 sp dp n = up (cpy g f 112 sp dp n) 97 0 0 := by
    intro g f sp dp n
    funext a j
    by_cases q : a = 112
    · subst q
      rw [up_a (by omega), cpy_at, cpy_at]
      dsimp only
      rw [up_a (by omega)]
    · rw [cpy_ne q]
      by_cases q1 : a = 97
      · subst q1
        by_cases q2 : j = 0
        · subst q2; rw [up_s, up_s]
        · rw [up_i q2, up_i q2, cpy_ne q]
      · rw [up_a q1, up_a q1, cpy_ne q]
  unfold remM
  rw [up_i (by omega), up_ne (show 112 ≠ 97 by omega), up_ne (show 110 ≠ 97 by omega)]
  split
  · rw [c, u, c, u]
  · rw [c, u]
/-- an act without a shot -/
theorem Inv_actN {b : Int} {hc hm hc2 hm2 : MH} (i : Inv0 b (mix hc hm)) (ec : ∀ a, a ≠ 91 → hc2 a = keepC hc a) (em : ∀ a, a ≠ 110 → hm2 a = remM (up hm 97 0 0) a)
    (st : stR (hc2 91) (hm2 110)) (ok : stOK (hc 2 3) (hc 2 4) b (hc2 91)) (e5 : hc2 91 5 = hc 91 5) (e6 : ∀ j, 37 ≤ j → j < 277 → hm2 110 j = hm 110 j) : Inv0 b (mix hc2 hm2) ∧ resL (mix hc2 hm2) = resL (mix hc hm) := by
  have h40 : hc 11 2 < 40 := (hist_n i).2.1.2
  refine Inv_act i (Int.le_refl b) (fun a j _ _ h1 _ => by rw [ec a h1]) (fun a j r h1 h2 => ?_) st ok (Or.inl ⟨e5, ?_, e6⟩)
  · rw [em a h2, remM_0]
    by_cases q : a = 97
    · subst q
      by_cases q2 : j = 0
      · subst q2; exact absurd r Bool.false_ne_true
      · exact up_i q2
    · exact up_a q
  · rw [ec _ (by omega), keepC_ne h40 (by omega) (by omega)]
theorem e_keepM (d : Nat) (hc g : MH) (h0 : 0 ≤ hc 11 2) (h1 : hc 11 2 < 40) (h2 : 0 ≤ hc 11 0) (h3 : hc 11 0 ≤ 40) : Run d 77 0 [vR 11, vR 12] [] (mix hc g) = some (none, mix (keepC hc) g) := by
  rw [e_keep d (mix hc g) h0 h1 h2 h3, keepC_mix h1]
theorem m_rememberM (d : Nat) (g hm : MH) (h0 : 0 ≤ hm 97 37) (h1 : hm 97 37 ≤ 40) : Run d 229 0 [vR 97, vU] [] (mix g (up hm 97 0 0)) = some (none, mix g (remM (up hm 97 0 0))) := by
  rw [m_remember d (mix g (up hm 97 0 0)) h0 h1, remM_mix]
