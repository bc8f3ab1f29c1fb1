/-! more calls that only read -/
theorem m_has (d : Nat) (x y : Int) (h : MH) : Run d 192 0 [.inl x, .inl y] [] h = some (some (.inl (iAnd (iShr x y) 1)), h) := by
  rw [q192_0]
  rcases and1 (iShr x y) with q | q <;> rw [q] <;> rfl
theorem c_known {b : Int} {h : MH} (i : Inv0 b h) (x : Int) : Pr b b 175 301 [vR 0, .inl x] [vR 97, .inl x] h := by
  apply Pr_ro i
  obtain ⟨l1, l2, l3, l4, l5, l6, l7⟩ := lg_n i
  have r := nowR i
  rw [q175_0, q301_0]
  simp only [e_isTold, e_isNews, m_isIn, cI_some, bi_0, bi_ne, bi_1, Classical.not_not, up_s, up_a, up_i, ne_eq, Nat.reduceEqDiff, not_false_eq_true, l1]
  by_cases q : 0 < h 2 3 ∧ 0 ≤ x ∧ x < 6
  · obtain ⟨q1, q2, q3⟩ := q
    simp (disch := omega) only [wI_ok, if_pos, if_neg, cI_some, cV_some, cJ_some, ↓reduceIte, not_true_eq_false, not_false_eq_true]
    rw [q131_0, q274_0]
    apply Bo_id
    refine Bo_loop (L := fun j a => Run 39 131 5 [vR 12, .inl x, .inl (h 2 3), .inl a, .inl j] [] h) (M := fun j a => Run 39 274 4 [vR 97, .inl x, .inl a, .inl j] [] (up h 97 0 0)) (P := fun j a b => 0 ≤ j ∧ a = b) (n := h 2 3) ?_ ?_ 0 0 0 ⟨by omega, rfl⟩
    · rintro j a _ ⟨p1, rfl⟩ hj
      rw [q131_5, q274_4, if_pos hj, if_pos (by rw [up_i (by omega), l1]; exact hj)]
      exact Bo_ret rfl
    · rintro j a _ ⟨p1, rfl⟩ hj
      right
      have e : h 110 (8 + j).toNat = h 91 (29 + j).toNat := st_news r j p1 (by omega)
      refine ⟨iOr a (iShl (iAnd (iShr (h 91 (29 + j).toNat) x) 1) j), _, ?_, ?_, by omega, rfl⟩
      · rw [q131_5]
        simp (disch := omega) only [wI_ok, if_pos, if_neg, cI_some, cV_some, cJ_some, ↓reduceIte, not_true_eq_false, not_false_eq_true]
      · rw [q274_4]
        simp (disch := omega) only [wI_ok, if_pos, if_neg, m_has, cI_some, up_s, up_a, up_i, ne_eq, Nat.reduceEqDiff, not_false_eq_true, l1, e]
        rcases and1 (iShr (h 91 (29 + j).toNat) x) with q | q
        · rw [q, if_pos rfl]
          have := shl_0 j.toNat (by omega)
          rw [Int.toNat_of_nonneg p1] at this
          rw [this]
        · rw [q, if_neg (by omega)]
  · repeat' (first | (apply Bo_if <;> intro _) | (apply Bo_if2 <;> intro _))
    all_goals first | (exfalso; omega) | (apply Bo_ret; first | rfl | omega | (congr 1; omega))
theorem c_home {b : Int} {h : MH} (i : Inv0 b h) (x : Int) : Pr b b 174 300 [vR 0, .inl x, vU, vU, vU] [vR 97, .inl x, vU, vU] h := by
  apply Pr_ro i
  obtain ⟨l1, l2, l3, l4, l5, l6, l7⟩ := lg_n i
  have r := nowR i
  rw [q174_0, q300_0]
  simp only [e_hasFort, m_isFort, cI_some, bi_0, bi_ne, bi_1, Classical.not_not, up_s, up_a, up_i, ne_eq, Nat.reduceEqDiff, not_false_eq_true, l1]
  by_cases q : 0 ≤ x ∧ x < h 2 3
  · rw [if_pos q, if_pos q]
    refine Bo_loop (L := fun j (a : Int × MV) => Run 40 174 17 [vR 0, .inl x, .inl a.1, .inl j, a.2] [] h) (M := fun j a => Run 40 300 19 [vR 97, .inl x, .inl a, .inl j] [] (up h 97 0 0)) (P := fun j a b => 0 ≤ j ∧ a.1 = b ∧ cat a.2 = 1) (n := h 2 4) ?_ ?_ 0 (0, vU) 0 ⟨by omega, rfl, rfl⟩
    · rintro j ⟨a, z⟩ _ ⟨p1, rfl, p2⟩ hj
      rw [q174_17 (hz3 := p2), q300_19, if_pos hj, if_pos (by rw [up_i (by omega), l2]; exact hj)]
      exact Bo_ret rfl
    · rintro j ⟨a, z⟩ _ ⟨p1, rfl, p2⟩ hj
      right
      have e : h 110 (16 + 3 * j + 2).toNat = h 91 (16 + j).toNat := st_late r j p1 (by omega)
      have e2 : h 110 (16 + 3 * j).toNat = h 91 (6 + j).toNat := st_at r j p1 (by omega)
      rw [q174_17 (hz3 := p2), q300_19]
      simp (disch := omega) only [m_free, m_folk, up_s, up_a, up_i, ne_eq, Nat.reduceEqDiff, not_false_eq_true, l2, cI_some, bi_0, bi_ne, bi_1, Classical.not_not]
      by_cases z : h 91 (16 + j).toNat = 0
      · by_cases z2 : h 91 (6 + j).toNat = x
        · refine ⟨(iOr a (iShl 1 j), .inl 1), _, ?_, ?_, by omega, rfl, rfl⟩
          · simp (disch := omega) only [wI_ok, if_pos, if_neg, cI_some, cV_some, cJ_some, ↓reduceIte, not_true_eq_false, not_false_eq_true]
          · simp (disch := omega) only [e, e2, wI_ok, if_pos, if_neg]
        · refine ⟨(iOr a 0, .inl 0), _, ?_, ?_, by omega, rfl, rfl⟩
          · simp (disch := omega) only [wI_ok, if_pos, if_neg, cI_some, cV_some, cJ_some, ↓reduceIte, not_true_eq_false, not_false_eq_true]
          · simp (disch := omega) only [e, e2, wI_ok, if_pos, if_neg]
      · refine ⟨(iOr a 0, .inl 0), _, ?_, ?_, by omega, rfl, rfl⟩
        · simp (disch := omega) only [wI_ok, if_pos, if_neg, ite_self]
        · simp (disch := omega) only [e, e2, wI_ok, if_pos, if_neg]
  · rw [if_neg q, if_neg q]
    exact Bo_ret rfl
theorem c_best {b : Int} {h : MH} (i : Inv0 b h) (x y : Int) : Pr b b 170 297 [vR 0, .inl x, .inl y] [vR 97, .inl x, .inl y, vU, vU] h := by
  apply Pr_ro i
  obtain ⟨l1, l2, l3, l4, l5, l6, l7⟩ := lg_n i
  have r := nowR i
  rw [q170_0, q297_0]
  simp only [e_isTold, m_isIn, cI_some, bi_0, bi_ne, bi_1, Classical.not_not, up_s, up_a, up_i, ne_eq, Nat.reduceEqDiff, not_false_eq_true, l1]
  by_cases q : 0 < h 2 3 ∧ 0 ≤ x ∧ x ≤ 1
  · obtain ⟨q1, q2, q3⟩ := q
    by_cases q4 : x = 0
    · simp (disch := omega) only [wI_ok, if_pos, if_neg, cI_some, cV_some, cJ_some, ↓reduceIte, not_true_eq_false, not_false_eq_true]
      rw [q171_0]
      apply Bo_idl
      refine Bo_loop (L := fun j a => Run 39 171 4 [vR 2, .inl a, .inl j] [] h) (M := fun j a => Run 40 297 40 [vR 97, .inl x, .inl y, .inl a, .inl j] [] (up h 97 0 0)) (P := fun j a b => 0 ≤ j ∧ a = b ∧ 0 ≤ a ∧ a < h 2 3) (n := h 2 3) ?_ ?_ 1 0 0 ⟨by omega, rfl, by omega, by omega⟩
      · rintro j a _ ⟨p1, rfl, p2, p3⟩ hj
        rw [q171_4, q297_40 (hz0 := rfl) (hz1 := rfl), if_pos hj, if_pos (by rw [up_i (by omega), l1]; exact hj)]
        exact Bo_ret rfl
      · rintro j a _ ⟨p1, rfl, p2, p3⟩ hj
        right
        refine ⟨if h 17 (3 * j + 1).toNat ≤ h 17 (3 * a + 1).toNat then a else j, _, ?_, ?_, by omega, rfl, ?_⟩
        · rw [q171_4]
          simp (disch := omega) only [wI_ok, if_pos, if_neg, cI_some, cV_some, cJ_some, ↓reduceIte, not_true_eq_false, not_false_eq_true, e_place, e_height, e_weight, e_nerve, m_place, m_told, m_folk, m_free, up_s, up_a, up_i, ne_eq, Nat.reduceEqDiff, not_false_eq_true, bi_0, bi_ne, bi_1, Classical.not_not]
          split <;> rfl
        · rw [q297_40 (hz0 := rfl) (hz1 := rfl)]
          simp (disch := omega) only [wI_ok, if_pos, if_neg, up_s, up_a, up_i, ne_eq, Nat.reduceEqDiff, not_false_eq_true, l1, lg_fort i]
          split <;> rfl
        · split <;> omega
    · have q5 : x = 1 := by omega
      subst q5
      simp (disch := omega) only [wI_ok, if_pos, if_neg, cI_some, cV_some, cJ_some, ↓reduceIte, not_true_eq_false, not_false_eq_true]
      rw [q172_0, q298_0]
      apply Bo_id
      refine Bo_loop (L := fun j a => Run 39 172 4 [vR 2, .inl y, .inl a, .inl j] [] h) (M := fun j a => Run 39 298 4 [vR 97, .inl y, .inl a, .inl j] [] (up h 97 0 0)) (P := fun j a b => 0 ≤ j ∧ a = b ∧ 0 ≤ a ∧ a < h 2 3) (n := h 2 3) ?_ ?_ 1 0 0 ⟨by omega, rfl, by omega, by omega⟩
      · rintro j a _ ⟨p1, rfl, p2, p3⟩ hj
        rw [q172_4, q298_4, if_pos hj, if_pos (by rw [up_i (by omega), l1]; exact hj)]
        exact Bo_ret rfl
      · rintro j a _ ⟨p1, rfl, p2, p3⟩ hj
        right
        refine ⟨if 0 ≤ cmpL (abL (wL (h 17 (3 * j).toNat - y))) (abL (wL (h 17 (3 * a).toNat - y))) then a else j, _, ?_, ?_, by omega, rfl, ?_⟩
        · rw [q172_4]
          simp (disch := omega) only [cI_some, wI_ok, e_place]
          rw [if_neg (by omega)]
          split <;> rfl
        · rw [q298_4]
          simp (disch := omega) only [wI_ok, cI_some, m_place, up_s, up_a, up_i, ne_eq, Nat.reduceEqDiff, not_false_eq_true, l1, lg_fort i]
          rw [if_neg (by omega)]
          split <;> rfl
        · split <;> omega
  · repeat' (first | (apply Bo_if <;> intro _) | (apply Bo_if2 <;> intro _))
    all_goals first | (exfalso; omega) | (apply Bo_ret; first | rfl | omega | (congr 1; omega))
theorem c_count {b : Int} {h : MH} (i : Inv0 b h) (x : Int) : Pr b b 67 306 [vR 0, .inl x] [vR 97, .inl x, vU, vU] h := by
  apply Pr_ro i
  obtain ⟨l1, l2, l3, l4, l5, l6, l7⟩ := lg_n i
  have r := nowR i
  have o := nowOK i
  obtain ⟨⟨-, t1, -⟩, ⟨t2, -⟩, -, -, -, ⟨⟨t3, -⟩, ⟨t4, -⟩, -⟩, ⟨⟨t5, -⟩, -⟩, ⟨t6, -, t7, -⟩⟩ := (Inv0_iff b h).mp i
  have t8 : h 97 37 = h 11 0 := by
    obtain ⟨-, -, -, ⟨L, M, -, ⟨-, -, q⟩, -⟩, -⟩ := (Inv0_iff b h).mp i
    exact q
  obtain ⟨-, -, s1, s2, s3, s4, s5, s6⟩ := r
  rw [q67_0, q306_0]
  by_cases q7 : x = 7
  · subst q7
    simp (disch := omega) only [wI_ok, if_pos, if_neg, cI_some, cV_some, cJ_some, ↓reduceIte, not_true_eq_false, not_false_eq_true]
    rw [q68_0]
    apply Bo_idl
    refine Bo_loop (L := fun j a => Run 39 68 5 [vR 12, .inl 21, .inl (h 2 3), .inl a, .inl j] [] h) (M := fun j a => Run 40 306 120 [vR 97, .inl 7, .inl a, .inl j] [] (up h 97 0 0)) (P := fun j a b => 0 ≤ j ∧ a = b ∧ 0 ≤ a ∧ a ≤ 9 * j) (n := h 2 3) ?_ ?_ 0 0 0 ⟨by omega, rfl, by omega, by omega⟩
    · rintro j a _ ⟨p1, rfl, p2, p3⟩ hj
      rw [q68_5, q306_120 (hz0 := rfl), if_pos hj, if_pos (by rw [up_i (by omega), l1]; exact hj)]
      exact Bo_ret rfl
    · rintro j a _ ⟨p1, rfl, p2, p3⟩ hj
      right
      have e := st_hay (nowR i) j p1 (by omega)
      have e2 := so_hay o j p1 (by omega)
      refine ⟨a + h 91 (21 + j).toNat, _, ?_, ?_, by omega, rfl, by omega, by omega⟩
      · rw [q68_5]
        simp (disch := omega) only [wI_ok, if_pos, if_neg, cI_some, cV_some, cJ_some, ↓reduceIte, not_true_eq_false, not_false_eq_true]
      · rw [q306_120 (hz0 := rfl)]
        simp (disch := omega) only [wI_ok, if_pos, if_neg, up_s, up_a, up_i, ne_eq, Nat.reduceEqDiff, not_false_eq_true, l1, Int.zero_add, e]
  · by_cases q8 : x = 8
    · subst q8
      simp (disch := omega) only [wI_ok, if_pos, if_neg, cI_some, cV_some, cJ_some, ↓reduceIte, not_true_eq_false, not_false_eq_true]
      rw [q68_0]
      apply Bo_idl
      refine Bo_loop (L := fun j a => Run 39 68 5 [vR 12, .inl 11, .inl (h 2 4), .inl a, .inl j] [] h) (M := fun j a => Run 40 306 149 [vR 97, .inl 8, .inl a, .inl j] [] (up h 97 0 0)) (P := fun j a b => 0 ≤ j ∧ a = b ∧ 0 ≤ a ∧ a ≤ 99 * j) (n := h 2 4) ?_ ?_ 0 0 0 ⟨by omega, rfl, by omega, by omega⟩
      · rintro j a _ ⟨p1, rfl, p2, p3⟩ hj
        rw [q68_5, q306_149 (hz0 := rfl), if_pos hj, if_pos (by rw [up_i (by omega), l2]; exact hj)]
        exact Bo_ret rfl
      · rintro j a _ ⟨p1, rfl, p2, p3⟩ hj
        right
        have e := st_hurt (nowR i) j p1 (by omega)
        have e2 := so_hurt o j p1 (by omega)
        refine ⟨a + h 91 (11 + j).toNat, _, ?_, ?_, by omega, rfl, by omega, by omega⟩
        · rw [q68_5]
          simp (disch := omega) only [wI_ok, if_pos, if_neg, cI_some, cV_some, cJ_some, ↓reduceIte, not_true_eq_false, not_false_eq_true]
        · rw [q306_149 (hz0 := rfl), m_folk _ _ _ p1 (by omega)]
          simp (disch := omega) only [wI_ok, if_pos, if_neg, up_s, up_a, up_i, ne_eq, Nat.reduceEqDiff, not_false_eq_true, l2, cI_some, e]
    · simp only [if_neg q7, if_neg q8, q69_0, cI_some, up_s, up_a, up_i, ne_eq, Nat.reduceEqDiff, not_false_eq_true]
      have s8 : h 110 36 = mn 60 (h 91 5) := by
        rw [s6]; unfold mn; split <;> split <;> omega
      simp only [l1, l2, t1, t2, t3, t4, t5, t6, t7, t8, s5, s8]
      repeat' (first | (apply Bo_if <;> intro _) | (apply Bo_if2 <;> intro _))
      all_goals first | (exfalso; omega) | (apply Bo_ret; first | rfl | omega | (congr 1; omega))
