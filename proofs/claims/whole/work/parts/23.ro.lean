/-! calls that only read -/
theorem c_rule {b : Int} {h : MH} (i : Inv0 b h) (x : Int) : Pr b b 60 218 [vR 0, .inl x] [vR 97, .inl x] h := by
  apply Pr_ro i
  obtain ⟨l1, l2, l3, l4, l5, l6, l7⟩ := lg_n i
  obtain ⟨-, -, s1, s2, s3, s4, s5, s6⟩ := nowR i
  have r3 := lg_rule i 3 (by omega)
  rw [q60_0, q218_0]
  simp only [e_isTold, q62_0, m_isIn, cI_some, bi_0, bi_ne, bi_1, Classical.not_not, up_s, up_a, up_i, ne_eq, Nat.reduceEqDiff, not_false_eq_true, l1]
  repeat' (first | (apply Bo_if <;> intro _) | (apply Bo_if2 <;> intro _))
  all_goals first | (exfalso; omega) | (apply Bo_ret; first | rfl | omega | (congr 1; omega))
theorem c_stock {b : Int} {h : MH} (i : Inv0 b h) (x : Int) : Pr b b 168 294 [vR 0, .inl x] [vR 97, .inl x] h := by
  apply Pr_ro i
  obtain ⟨l1, l2, l3, l4, l5, l6, l7⟩ := lg_n i
  obtain ⟨-, -, s1, s2, s3, s4, s5, s6⟩ := nowR i
  rw [q168_0, q294_0]
  simp only [e_isTold, e_isPowder, m_isIn, cI_some, bi_0, bi_ne, bi_1, Classical.not_not, up_s, up_a, up_i, ne_eq, Nat.reduceEqDiff, not_false_eq_true, l1, s1]
  repeat' (first | (apply Bo_if <;> intro _) | (apply Bo_if2 <;> intro _))
  all_goals first | (exfalso; omega) | (apply Bo_ret; first | rfl | omega | (congr 1; omega))
theorem c_fort {b : Int} {h : MH} (i : Inv0 b h) (x y : Int) : Pr b b 63 219 [vR 0, .inl x, .inl y] [vR 97, .inl x, .inl y] h := by
  apply Pr_ro i
  obtain ⟨l1, l2, l3, l4, l5, l6, l7⟩ := lg_n i
  have r := nowR i
  rw [q63_0, q219_0]
  simp only [e_hasFort, m_isFort, m_isIn, cI_some, bi_0, bi_ne, bi_1, Classical.not_not, up_s, up_a, up_i, ne_eq, Nat.reduceEqDiff, not_false_eq_true, l1]
  by_cases q : 0 ≤ x ∧ x < h 2 3
  · obtain ⟨q1, q2⟩ := q
    rw [e_place _ _ _ q1 (by omega), e_height _ _ _ q1 (by omega)]
    simp (disch := omega) only [wI_ok, if_pos, if_neg, cI_some, cV_some, cJ_some, ↓reduceIte, not_true_eq_false, not_false_eq_true]
    repeat' (first | (apply Bo_if <;> intro _) | (apply Bo_if2 <;> intro _))
    all_goals (try simp (disch := omega) only [wI_ok, lg_fort i, st_hay r, st_news r, Int.zero_add])
    all_goals first | (exfalso; omega) | (apply Bo_ret; first | rfl | omega | (congr 1; omega))
  · simp only [if_neg q, not_false_eq_true, if_true, q]
    exact Bo_ret rfl
theorem c_step {b : Int} {h : MH} (i : Inv0 b h) (x y z : Int) : Pr b b 113 253 [vR 0, .inl x, .inl y, .inl z] [vR 97, .inl x, .inl y, .inl z] h := by
  apply Pr_ro i
  obtain ⟨-, -, -, -, -, -, ⟨⟨p1, p2, p3⟩, p4⟩, -⟩ := (Inv0_iff b h).mp i
  rw [q113_0, q253_0, e_has, m_isPlan]
  simp only [up_s, up_a, up_i, ne_eq, Nat.reduceEqDiff, not_false_eq_true, bi_0, bi_ne, bi_1, Classical.not_not, cI_some, p1]
  by_cases q : 0 ≤ x ∧ x < h 7 1
  · obtain ⟨q1, q2⟩ := q
    obtain ⟨a1, a2, a3⟩ := p4 x.toNat (by omega)
    simp (disch := omega) only [wI_ok, if_pos, if_neg, cI_some, m_isIn, bi_0, bi_ne, bi_1, Classical.not_not, up_s, up_a, up_i, ne_eq, Nat.reduceEqDiff, not_false_eq_true, a1, Int.one_ne_zero, if_false]
    by_cases q : 0 ≤ y ∧ y < h 31 x.toNat ∧ 0 ≤ z ∧ z < 4
    · obtain ⟨q3, q4, q5, q6⟩ := q
      obtain ⟨a4, -⟩ := a3 y.toNat (by omega)
      have a5 := a4 z.toNat (by omega)
      simp (disch := omega) only [q115_0, wI_ok, if_pos, if_neg, cI_some]
      apply Bo_ret
      rw [show (4 * (16 * x + y) + z).toNat = 64 * x.toNat + 4 * y.toNat + z.toNat by omega, show (y * 4 + z).toNat = 4 * y.toNat + z.toNat by omega]
      exact a5.symm
    · repeat' (first | (apply Bo_if <;> intro _) | (apply Bo_if2 <;> intro _))
      all_goals first | (exfalso; omega) | (apply Bo_ret; first | rfl | omega | (congr 1; omega))
  · repeat' (first | (apply Bo_if <;> intro _) | (apply Bo_if2 <;> intro _))
    all_goals first | (exfalso; omega) | (apply Bo_ret; first | rfl | omega | (congr 1; omega))
theorem e_logged (d : Nat) (x y : Int) (h : MH) (h0 : 0 ≤ x) (h1 : x < h 91 5) (h2 : h 91 5 ≤ 1000000) (h3 : 0 ≤ y) (h4 : y < 4) : Run d 109 0 [vR 12, .inl x, .inl y] [] h = some (some (.inl (h 92 (4 * ((h 91 5 - 1 - x).toNat % 100) + y.toNat))), h) := by
  rw [q109_0]
  rw [wI_ok (x := h _ _ - 1) (by omega) (by omega), wI_ok (x := _ - 1 - x) (by omega) (by omega), Int.tmod_eq_emod_of_nonneg (by omega)]
  simp (disch := omega) only [wI_ok, if_pos, if_neg, cI_some, cV_some, cJ_some, ↓reduceIte, not_true_eq_false, not_false_eq_true]
  rw [show ((h 91 5 - 1 - x) % 100 * 4 + y).toNat = 4 * ((h 91 5 - 1 - x).toNat % 100) + y.toNat by omega]
theorem c_log {b : Int} {h : MH} (i : Inv0 b h) (hb : b ≤ 1000000) (x y : Int) : Pr b b 108 252 [vR 0, .inl x, .inl y] [vR 97, .inl x, .inl y] h := by
  apply Pr_ro i
  obtain ⟨-, -, -, ⟨L, M, ⟨r1, r2, r3, r4⟩, -, -, r5⟩, -⟩ := (Inv0_iff b h).mp i
  obtain ⟨-, -, s1, s2, s3, s4, s5, s6⟩ := r1
  obtain ⟨⟨-, -, -, -, -, s7⟩, -⟩ := r2
  rw [q108_0, q252_0, q69_0]
  simp only [up_s, up_a, up_i, ne_eq, Nat.reduceEqDiff, not_false_eq_true, cI_some, m_isIn, bi_0, bi_ne, bi_1, Classical.not_not]
  have s8 : h 110 36 = mn 60 (h 91 5) := by
    rw [s6]; unfold mn; split <;> split <;> omega
  have s9 : mn 60 (h 91 5) ≤ 60 ∧ mn 60 (h 91 5) ≤ h 91 5 ∧ (mn 60 (h 91 5) = 60 ∨ mn 60 (h 91 5) = h 91 5) ∧ 0 ≤ mn 60 (h 91 5) := by
    unfold mn; split <;> omega
  rw [s8]
  by_cases q : 0 ≤ x ∧ x < mn 60 (h 91 5) ∧ 0 ≤ y ∧ y < 4
  · obtain ⟨q1, q2, q3, q4⟩ := q
    rw [e_logged _ _ _ _ q1 (by omega) (by omega) q3 q4]
    simp (disch := omega) only [wI_ok, if_pos, if_neg, cI_some, cV_some, cJ_some, ↓reduceIte, not_true_eq_false, not_false_eq_true]
    apply Bo_ret
    obtain ⟨r6, r7⟩ := r4
    have a1 := r7 (h 91 5 - 1 - x).toNat (by omega) (by omega) y.toNat (by omega)
    have a2 := r3 (h 91 5 - 1 - x).toNat (by omega) (by omega) y.toNat (by omega)
    rw [a1, show (37 + 4 * (mn 60 (h 91 5) - 1 - x) + y).toNat = 37 + 4 * ((h 91 5 - 1 - x).toNat - (h 91 5 - 60).toNat) + y.toNat by omega, a2]
  · rw [wI_ok (x := mn 60 _ - 1) (by omega) (by omega)]
    repeat' (first | (apply Bo_if <;> intro _) | (apply Bo_if2 <;> intro _))
    all_goals first | (exfalso; omega) | (apply Bo_ret; first | rfl | omega | (congr 1; omega))
theorem c_free {b : Int} {h : MH} (i : Inv0 b h) : Pr b b 173 299 [vR 0, vU, vU] [vR 97, vU, vU] h := by
  apply Pr_ro i
  obtain ⟨l1, l2, l3, l4, l5, l6, l7⟩ := lg_n i
  have r := nowR i
  rw [q173_0, q299_0]
  simp only [e_isTold, cI_some, bi_0, bi_ne, bi_1, Classical.not_not, up_s, up_a, up_i, ne_eq, Nat.reduceEqDiff, not_false_eq_true, l1]
  by_cases q : 0 < h 2 3
  · rw [if_pos q, if_pos (by omega)]
    refine Bo_loop (L := fun j a => Run 40 173 16 [vR 0, .inl a, .inl j] [] h) (M := fun j a => Run 40 299 18 [vR 97, .inl a, .inl j] [] (up h 97 0 0)) (P := fun j a b => 0 ≤ j ∧ a = b) (n := h 2 4) ?_ ?_ 0 0 0 ⟨by omega, rfl⟩
    · rintro j a _ ⟨p1, rfl⟩ hj
      rw [q173_16, q299_18, if_pos hj, if_pos (by rw [up_i (by omega), l2]; exact hj)]
      exact Bo_ret rfl
    · rintro j a _ ⟨p1, rfl⟩ hj
      right
      have e : h 110 (16 + 3 * j + 2).toNat = h 91 (16 + j).toNat := st_late r j p1 (by omega)
      refine ⟨iOr a (if h 91 (16 + j).toNat = 0 then iShl 1 j else 0), _, ?_, ?_, by omega, rfl⟩
      · rw [q173_16]
        by_cases z : h 91 (16 + j).toNat = 0
        · simp (disch := omega) only [wI_ok, if_pos, if_neg, cI_some, cV_some, cJ_some, ↓reduceIte, not_true_eq_false, not_false_eq_true]
        · simp (disch := omega) only [wI_ok, if_pos, if_neg, cI_some, cV_some, cJ_some, ↓reduceIte, not_true_eq_false, not_false_eq_true]
      · rw [q299_18, m_free _ _ _ p1 (by omega)]
        simp only [up_s, up_a, up_i, ne_eq, Nat.reduceEqDiff, not_false_eq_true, l2, cI_some, bi_0, bi_ne, bi_1, Classical.not_not]
        by_cases z : h 91 (16 + j).toNat = 0
        · simp (disch := omega) only [wI_ok, if_pos, if_neg, cI_some, cV_some, cJ_some, ↓reduceIte, not_true_eq_false, not_false_eq_true]
        · simp (disch := omega) only [wI_ok, if_pos, if_neg, cI_some, cV_some, cJ_some, ↓reduceIte, not_true_eq_false, not_false_eq_true]
  · rw [if_neg q, if_neg (by omega)]
    exact Bo_ret rfl
