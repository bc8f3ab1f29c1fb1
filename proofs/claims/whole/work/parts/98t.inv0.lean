/-! the start keeps what holds at every call -/
theorem ft_3 {c j : Nat} (h : ft c j = 3) : c = 12 ∧ j = 5 := by
  have k1 : ∀ c, c < ftT.length → ∀ j, j < (ftT.getD c []).length → (ftT.getD c []).getD j 9 = 3 → c = 12 ∧ j = 5 := by decide +kernel
  unfold ft at h
  by_cases q : c < ftT.length
  · by_cases q2 : j < (ftT.getD c []).length
    · exact k1 c q j q2 h
    · generalize ftT.getD c [] = li at h q2
      rw [List.getD_eq_getElem?_getD, List.getElem?_eq_none (by omega)] at h
      cases h
  · have e1 : ftT.getD c [] = [] := by
      rw [List.getD_eq_getElem?_getD, List.getElem?_eq_none (by omega)]
      rfl
    rw [e1] at h
    cases h
theorem mk_12 {a : Nat} (h : (mk a).1 = 12) : a = 97 := by
  have ha : a < nC := mk_lt (by omega)
  have k : ∀ a, a < nC → (mk a).1 = 12 → a = 97 := by decide +kernel
  exact k a ha h
theorem okS_z {a j : Nat} {x : Int} (hx : inI x) (h3 : ¬ (a = 97 ∧ j = 5)) : okS a j x := by
  have hL : inL x := inI_inL hx
  unfold okS
  generalize hc : (mk a).1 = c
  split
  · exact hL
  · generalize hf : ft c j = f
    split
    · exact hL
    · obtain ⟨q1, q2⟩ := ft_3 hf
      exact (h3 ⟨mk_12 (hc.trans q1), q2⟩).elim
    · exact hx
theorem ok_h00 {sc : Nat → Int} {L : Nat} (hs : ∀ j, inI (sc j)) (hL : L ≤ 3584) : okH (h00 sc L) := by
  intro a j
  by_cases q : a = 97 ∧ j = 5
  · obtain ⟨rfl, rfl⟩ := q
    show (0 : Int) ≤ 98 ∧ (mk (98 : Int).toNat).1 = 101
    decide +kernel
  · refine okS_z ?_ q
    unfold h00
    by_cases q1 : a = 138
    · rw [if_pos q1]; exact hs j
    rw [if_neg q1]
    by_cases q2 : a = 998
    · rw [if_pos q2]; unfold inI; omega
    rw [if_neg q2]
    by_cases q3 : a = 6
    · rw [if_pos q3]
      show inI (if j = 2 then (-1 : Int) else 0)
      split <;> (unfold inI; omega)
    rw [if_neg q3]
    by_cases q4 : a = 97
    · rw [if_pos q4]
      show inI (if j = 34 then (-1 : Int) else if j = 5 then (98 : Int) else 0)
      split
      · unfold inI; omega
      · split <;> (unfold inI; omega)
    rw [if_neg q4]
    unfold inI; omega
theorem h00_z (sc : Nat → Int) (L : Nat) {a : Nat} (h1 : a ≠ 138) (h2 : a ≠ 998) (h3 : a ≠ 6) (h4 : a ≠ 97) (j : Nat) : h00 sc L a j = 0 := by
  unfold h00
  rw [if_neg h1, if_neg h2, if_neg h3, if_neg h4]
theorem r00_z (sc : Nat → Int) (L : Nat) {a : Nat} (h3 : a ≠ 6) (h4 : a ≠ 97) (j : Nat) : res (h00 sc L) a j = 0 := by
  unfold res
  by_cases q : relB a j = true
  · rw [if_pos q]
    by_cases q1 : a = 138
    · subst q1; exact absurd q (by decide +kernel : ¬ (relB 138 0 = true))
    by_cases q2 : a = 998
    · subst q2; exact absurd q (by decide +kernel : ¬ (relB 998 0 = true))
    exact h00_z sc L q1 q2 h3 h4 j
  · rw [if_neg q]
theorem r00_f (sc : Nat → Int) (L : Nat) {a : Nat} (h3 : a ≠ 6) (h4 : a ≠ 97) : res (h00 sc L) a = fun _ => 0 := funext (r00_z sc L h3 h4)
theorem r00_m (sc : Nat → Int) (L : Nat) {j : Nat} (h1 : j ≠ 34) (h2 : j ≠ 5) : res (h00 sc L) 97 j = 0 := by
  unfold res
  by_cases q : relB 97 j = true
  · rw [if_pos q]
    show (if j = 34 then (-1 : Int) else if j = 5 then (98 : Int) else 0) = 0
    rw [if_neg h1, if_neg h2]
  · rw [if_neg q]
theorem stR_0 : stR (fun _ => 0) (fun _ => 0) := ⟨fun _ _ => ⟨rfl, rfl⟩, fun _ _ => ⟨rfl, rfl, rfl⟩, rfl, rfl, rfl, rfl, rfl, rfl⟩
theorem stOK_0 : stOK 0 0 0 (fun _ => 0) := by
  unfold stOK
  refine ⟨?_, fun i hi => by omega, fun i _ _ => ⟨rfl, rfl, rfl⟩, fun i hi => by omega, fun i _ _ => ⟨rfl, rfl⟩⟩
  dsimp only
  omega
theorem Inv0_start (sc : Nat → Int) (L : Nat) : Inv0 0 (h00 sc L) := by
  have hm : ∀ j, j ≠ 34 → j ≠ 5 → res (h00 sc L) 97 j = 0 := fun j h1 h2 => r00_m sc L h1 h2
  have hz : ∀ a j, a ≠ 6 → a ≠ 97 → res (h00 sc L) a j = 0 := fun a j h1 h2 => r00_z sc L h1 h2 j
  have hl1 : res (h00 sc L) 6 1 = 0 := rfl
  have hl2 : res (h00 sc L) 6 2 = -1 := rfl
  have hm2 : res (h00 sc L) 97 34 = -1 := rfl
  have t1 := hz 1 1 (by decide) (by decide)
  have t2 := hm 6 (by decide) (by decide)
  have d1 := hz 0 14 (by decide) (by decide)
  have d2 := hm 35 (by decide) (by decide)
  have g1 := hz 2 3 (by decide) (by decide)
  have g2 := hz 2 4 (by decide) (by decide)
  have g3 := hm 26 (by decide) (by decide)
  have g4 := hm 27 (by decide) (by decide)
  have n1 := r00_f sc L (a := 91) (by decide) (by decide)
  have n2 := r00_f sc L (a := 110) (by decide) (by decide)
  have n3 := r00_f sc L (a := 92) (by decide) (by decide)
  have n4 := hz 11 0 (by decide) (by decide)
  have n5 := hz 11 2 (by decide) (by decide)
  have n6 := hm 37 (by decide) (by decide)
  have k1 := hm 51 (by decide) (by decide)
  have k2 := hz 0 13 (by decide) (by decide)
  have u1 := hm 46 (by decide) (by decide)
  have u2 := hz 10 2 (by decide) (by decide)
  have u3 := hm 49 (by decide) (by decide)
  have u4 := hz 10 3 (by decide) (by decide)
  have p1 := hm 30 (by decide) (by decide)
  have p2 := hz 7 1 (by decide) (by decide)
  have w1 := hm 7 (by decide) (by decide)
  unfold Inv0
  generalize res (h00 sc L) = g at *
  refine ⟨?_, ?_, ?_, ?_, ?_, ?_, ?_, ?_⟩
  · exact ⟨⟨by omega, by omega⟩, by omega, fun i hi => by omega⟩
  · exact ⟨by omega, by omega, by omega⟩
  · refine ⟨by omega, by omega, Or.inl ⟨g1, g2⟩, fun i _ => ?_, fun i hi => by omega, fun i hi => by omega⟩
    rw [hz 102 i (by decide) (by decide), hz 16 i (by decide) (by decide)]
  · refine ⟨fun _ _ => 0, 0, ⟨?_, ?_, ?_, ?_⟩, ⟨⟨by omega, by omega⟩, ⟨by omega, by omega⟩, by omega⟩, fun i hi => by omega, ?_⟩
    · rw [n1, n2]; exact stR_0
    · rw [n1, g1, g2]; exact stOK_0
    · intro n hn
      rw [n1] at hn
      have hn0 : (n : Int) < 0 := hn
      omega
    · rw [n1]
      exact ⟨Int.le_refl 0, fun n hn => by
        have hn0 : (n : Int) < 0 := hn
        omega⟩
    · rw [n1]
      show (0 : Int) ≤ 0 + 40
      omega
  · exact ⟨by omega, by omega, fun h => by omega⟩
  · exact ⟨⟨by omega, by omega, by omega⟩, ⟨by omega, by omega, by omega⟩, fun i hi => by omega, fun i hi => by omega⟩
  · exact ⟨⟨by omega, by omega, by omega⟩, fun k hk => by omega⟩
  · exact ⟨by omega, ⟨by omega, by omega⟩, by omega, by omega, by omega⟩
theorem InvX_start (sc : Nat → Int) (L : Nat) (Ws : Nat → WF) : InvX 0 Ws (h00 sc L) := by
  have l1 : h00 sc L 6 1 = 0 := rfl
  have g2 : h00 sc L 2 4 = 0 := rfl
  refine ⟨⟨Inv0_start sc L, fun k hk => ?_⟩, fun c f hc => ?_, fun c f hc => ?_⟩
  · exfalso; rw [show h00 sc L 6 1 = 0 from l1] at hk; omega
  · exfalso; rw [show h00 sc L 2 4 = 0 from g2] at hc; omega
  · exfalso; rw [show h00 sc L 2 4 = 0 from g2] at hc; omega
theorem st_world {x m o : Nat} {u u2 : US} {v T : Nat → Nat} {z : Value} {D : va_G} {sc : Nat → Int} {L : Nat} {A : Nat → Prop} {H : Heap} (hP : va_P D mcl (stW x m o u u2 v T) H) (hD : va_D A (stW x m o u u2 v T)) : va_P D mcl (wS (wst x m o u u2 v T z D sc L) (h00 sc L)) H ∧ va_D A (wS (wst x m o u u2 v T z D sc L) (h00 sc L)) := by
  have n121 : nM = 121 := rfl
  have key : ∀ (k : Nat) (q : Nat × va_E), (wS (wst x m o u u2 v T z D sc L) (h00 sc L))[k]? = some q → k < 121 ∧ (stW x m o u u2 v T)[sgL.getD k 0]? = some q := by
    intro k q hk
    have hl := (List.getElem?_eq_some_iff.mp hk).1
    rw [wS_len] at hl
    rw [wS_get hl] at hk
    have hl2 : k < 121 := by omega
    exact ⟨hl2, (st0_all x m o u u2 v T z D sc L k hl2).trans hk⟩
  refine ⟨fun k q hk => hP _ q (key k q hk).2, fun i j a b ha hb e => ?_, fun k q hk => hD.2 _ q (key k q hk).2⟩
  exact sg_inj i (key i a ha).1 j (key j b hb).1 (hD.1 _ _ a b (key i a ha).2 (key j b hb).2 e)
