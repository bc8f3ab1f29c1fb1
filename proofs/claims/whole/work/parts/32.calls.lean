/-! damps, law, end; image and back; seen and face -/
theorem resL_up2 {h : MH} {a j : Nat} {v : Int} (e : relL a j = false) {g : MH} (q : resL h = resL g) : resL (up h a j v) = resL g := by rw [resL_up e, q]
theorem c_damps {b : Int} {h : MH} (i : Inv0 b h) (x : Int) : Pr b b 66 225 [vR 0, .inl x] [vR 97, .inl x] h := by
  obtain ⟨-, t2, -⟩ := (Inv0_iff b h).mp i
  obtain ⟨t1, t2, t3⟩ := t2
  by_cases q : (0 ≤ x ∧ x ≤ 9) ∧ ¬ x = h 0 14
  · obtain ⟨q1, q2⟩ := q
    refine ⟨1, up h 0 14 x, up (up (up h 0 14 x) 97 0 0) 97 35 x, ?_, ?_, ?_, ?_⟩
    · rw [q66_0]
      simp (disch := omega) only [e_isTold, e_hasFort, e_hasCarrier, e_isWay, e_isPowder, e_isNews, m_isIn, m_isFort, m_isCarrier, mix_c, mix_m, cI_some, cV_some, bi_0, bi_ne, bi_1, Classical.not_not, if_pos, if_neg, wI_ok, e_keepM, m_rememberM, up_mixc, up_mixm, keepC_ne, remM_ne, ↓reduceIte, not_true_eq_false, up_s, up_a, up_i, ne_eq, Nat.reduceEqDiff, not_false_eq_true]
    · rw [q225_0]
      simp (disch := omega) only [e_isTold, e_hasFort, e_hasCarrier, e_isWay, e_isPowder, e_isNews, m_isIn, m_isFort, m_isCarrier, mix_c, mix_m, cI_some, cV_some, bi_0, bi_ne, bi_1, Classical.not_not, if_pos, if_neg, wI_ok, e_keepM, m_rememberM, up_mixc, up_mixm, keepC_ne, remM_ne, ↓reduceIte, not_true_eq_false, up_s, up_a, up_i, ne_eq, Nat.reduceEqDiff, not_false_eq_true, t1]
    · refine Inv_Damp i (fun a j r n => ?_) ⟨?_, ?_⟩
      · by_cases z : a = 97
        · subst z
          rw [up_i (by omega)]
          by_cases z2 : j = 0
          · subst z2; exact absurd r Bool.false_ne_true
          · rw [up_i z2, up_a (by omega)]
        · rw [up_a z, up_a z]
          by_cases z3 : a = 0
          · subst z3; rw [up_i (by omega)]
          · rw [up_a z3]
      · rw [up_s, up_a (by omega), up_a (by omega), up_s]
      · rw [up_a (by omega), up_a (by omega), up_s]; exact q1
    · exact resL_up2 rfl (resL_up2 rfl (resL_up2 rfl rfl))
  · apply Pr_ro i
    rw [q66_0, q225_0]
    simp (disch := omega) only [e_isTold, e_hasFort, e_hasCarrier, e_isWay, e_isPowder, e_isNews, m_isIn, m_isFort, m_isCarrier, mix_c, mix_m, cI_some, cV_some, bi_0, bi_ne, bi_1, Classical.not_not, if_pos, if_neg, wI_ok, e_keepM, m_rememberM, up_mixc, up_mixm, keepC_ne, remM_ne, ↓reduceIte, not_true_eq_false, up_s, up_a, up_i, ne_eq, Nat.reduceEqDiff, not_false_eq_true, t1]
    repeat' (first | (apply Bo_if <;> intro _) | (apply Bo_if2 <;> intro _))
    all_goals first | (exfalso; omega) | (apply Bo_ret; first | rfl | omega | (congr 1; omega))
theorem c_law {b : Int} {h : MH} (i : Inv0 b h) (x : Int) : Pr b b 65 224 [vR 0, .inl x] [vR 97, .inl x] h := by
  obtain ⟨-, -, -, -, -, -, -, ⟨t1, t2, t3, t4⟩⟩ := (Inv0_iff b h).mp i
  by_cases q : -1 ≤ x ∧ x < h 6 1
  · obtain ⟨q1, q2⟩ := q
    refine ⟨1, up h 6 2 x, up (up (up h 6 2 x) 97 0 0) 97 34 x, ?_, ?_, ?_, ?_⟩
    · rw [q65_0]
      simp (disch := omega) only [e_isTold, e_hasFort, e_hasCarrier, e_isWay, e_isPowder, e_isNews, m_isIn, m_isFort, m_isCarrier, mix_c, mix_m, cI_some, cV_some, bi_0, bi_ne, bi_1, Classical.not_not, if_pos, if_neg, wI_ok, e_keepM, m_rememberM, up_mixc, up_mixm, keepC_ne, remM_ne, ↓reduceIte, not_true_eq_false, up_s, up_a, up_i, ne_eq, Nat.reduceEqDiff, not_false_eq_true]
    · rw [q224_0]
      by_cases z : x = -1
      · simp (disch := omega) only [e_isTold, e_hasFort, e_hasCarrier, e_isWay, e_isPowder, e_isNews, m_isIn, m_isFort, m_isCarrier, mix_c, mix_m, cI_some, cV_some, bi_0, bi_ne, bi_1, Classical.not_not, if_pos, if_neg, wI_ok, e_keepM, m_rememberM, up_mixc, up_mixm, keepC_ne, remM_ne, ↓reduceIte, not_true_eq_false, up_s, up_a, up_i, ne_eq, Nat.reduceEqDiff, not_false_eq_true, t1]
      · simp (disch := omega) only [e_isTold, e_hasFort, e_hasCarrier, e_isWay, e_isPowder, e_isNews, m_isIn, m_isFort, m_isCarrier, mix_c, mix_m, cI_some, cV_some, bi_0, bi_ne, bi_1, Classical.not_not, if_pos, if_neg, wI_ok, e_keepM, m_rememberM, up_mixc, up_mixm, keepC_ne, remM_ne, ↓reduceIte, not_true_eq_false, up_s, up_a, up_i, ne_eq, Nat.reduceEqDiff, not_false_eq_true, t1]
    · refine Inv_Law i (fun a j r n => ?_) ⟨?_, ?_, ?_, ?_⟩
      · by_cases z : a = 97
        · subst z
          rw [up_i (by omega)]
          by_cases z2 : j = 0
          · subst z2; exact absurd r Bool.false_ne_true
          · rw [up_i z2, up_a (by omega)]
        · rw [up_a z, up_a z]
          by_cases z3 : a = 6
          · subst z3; rw [up_i (by omega)]
          · rw [up_a z3]
      · simp (disch := omega) only [e_isTold, e_hasFort, e_hasCarrier, e_isWay, e_isPowder, e_isNews, m_isIn, m_isFort, m_isCarrier, mix_c, mix_m, cI_some, cV_some, bi_0, bi_ne, bi_1, Classical.not_not, if_pos, if_neg, wI_ok, e_keepM, m_rememberM, up_mixc, up_mixm, keepC_ne, remM_ne, ↓reduceIte, not_true_eq_false, up_s, up_a, up_i, ne_eq, Nat.reduceEqDiff, not_false_eq_true, t1]
      · simp (disch := omega) only [e_isTold, e_hasFort, e_hasCarrier, e_isWay, e_isPowder, e_isNews, m_isIn, m_isFort, m_isCarrier, mix_c, mix_m, cI_some, cV_some, bi_0, bi_ne, bi_1, Classical.not_not, if_pos, if_neg, wI_ok, e_keepM, m_rememberM, up_mixc, up_mixm, keepC_ne, remM_ne, ↓reduceIte, not_true_eq_false, up_s, up_a, up_i, ne_eq, Nat.reduceEqDiff, not_false_eq_true]
        exact t2
      · simp (disch := omega) only [e_isTold, e_hasFort, e_hasCarrier, e_isWay, e_isPowder, e_isNews, m_isIn, m_isFort, m_isCarrier, mix_c, mix_m, cI_some, cV_some, bi_0, bi_ne, bi_1, Classical.not_not, if_pos, if_neg, wI_ok, e_keepM, m_rememberM, up_mixc, up_mixm, keepC_ne, remM_ne, ↓reduceIte, not_true_eq_false, up_s, up_a, up_i, ne_eq, Nat.reduceEqDiff, not_false_eq_true]
      · simp (disch := omega) only [e_isTold, e_hasFort, e_hasCarrier, e_isWay, e_isPowder, e_isNews, m_isIn, m_isFort, m_isCarrier, mix_c, mix_m, cI_some, cV_some, bi_0, bi_ne, bi_1, Classical.not_not, if_pos, if_neg, wI_ok, e_keepM, m_rememberM, up_mixc, up_mixm, keepC_ne, remM_ne, ↓reduceIte, not_true_eq_false, up_s, up_a, up_i, ne_eq, Nat.reduceEqDiff, not_false_eq_true]
        exact ⟨q1, q2⟩
    · exact resL_up2 rfl (resL_up2 rfl (resL_up2 rfl rfl))
  · apply Pr_ro i
    rw [q65_0, q224_0]
    simp (disch := omega) only [e_isTold, e_hasFort, e_hasCarrier, e_isWay, e_isPowder, e_isNews, m_isIn, m_isFort, m_isCarrier, mix_c, mix_m, cI_some, cV_some, bi_0, bi_ne, bi_1, Classical.not_not, if_pos, if_neg, wI_ok, e_keepM, m_rememberM, up_mixc, up_mixm, keepC_ne, remM_ne, ↓reduceIte, not_true_eq_false, up_s, up_a, up_i, ne_eq, Nat.reduceEqDiff, not_false_eq_true, t1]
    repeat' (first | (apply Bo_if <;> intro _) | (apply Bo_if2 <;> intro _))
    all_goals first | (exfalso; omega) | (apply Bo_ret; first | rfl | omega | (congr 1; omega))
theorem c_end {b : Int} {h : MH} (i : Inv0 b h) (x : Int) : Pr b b 3 181 [vR 0, .inl x] [vR 97, .inl x] h := by
  obtain ⟨⟨t1, t2, t3⟩, -⟩ := (Inv0_iff b h).mp i
  by_cases q : 0 ≤ x ∧ x ≤ h 1 1
  · obtain ⟨q1, q2⟩ := q
    refine ⟨1, up h 1 1 x, up (up (up h 1 1 x) 97 0 0) 97 6 x, ?_, ?_, ?_, ?_⟩
    · rw [q3_0]
      simp (disch := omega) only [e_isTold, e_hasFort, e_hasCarrier, e_isWay, e_isPowder, e_isNews, m_isIn, m_isFort, m_isCarrier, mix_c, mix_m, cI_some, cV_some, bi_0, bi_ne, bi_1, Classical.not_not, if_pos, if_neg, wI_ok, e_keepM, m_rememberM, up_mixc, up_mixm, keepC_ne, remM_ne, ↓reduceIte, not_true_eq_false, up_s, up_a, up_i, ne_eq, Nat.reduceEqDiff, not_false_eq_true]
    · rw [q181_0]
      simp (disch := omega) only [e_isTold, e_hasFort, e_hasCarrier, e_isWay, e_isPowder, e_isNews, m_isIn, m_isFort, m_isCarrier, mix_c, mix_m, cI_some, cV_some, bi_0, bi_ne, bi_1, Classical.not_not, if_pos, if_neg, wI_ok, e_keepM, m_rememberM, up_mixc, up_mixm, keepC_ne, remM_ne, ↓reduceIte, not_true_eq_false, up_s, up_a, up_i, ne_eq, Nat.reduceEqDiff, not_false_eq_true, t2]
    · refine Inv_Tape i (fun a j r n => ?_) ⟨?_, ?_, ?_⟩
      · by_cases z : a = 97
        · subst z
          rw [up_i (by omega)]
          by_cases z2 : j = 0
          · subst z2; exact absurd r Bool.false_ne_true
          · rw [up_i z2, up_a (by omega)]
        · rw [up_a z, up_a z]
          by_cases z3 : a = 1
          · subst z3; rw [up_i (by omega)]
          · rw [up_a z3]
      · simp (disch := omega) only [e_isTold, e_hasFort, e_hasCarrier, e_isWay, e_isPowder, e_isNews, m_isIn, m_isFort, m_isCarrier, mix_c, mix_m, cI_some, cV_some, bi_0, bi_ne, bi_1, Classical.not_not, if_pos, if_neg, wI_ok, e_keepM, m_rememberM, up_mixc, up_mixm, keepC_ne, remM_ne, ↓reduceIte, not_true_eq_false, up_s, up_a, up_i, ne_eq, Nat.reduceEqDiff, not_false_eq_true]
        omega
      · simp (disch := omega) only [e_isTold, e_hasFort, e_hasCarrier, e_isWay, e_isPowder, e_isNews, m_isIn, m_isFort, m_isCarrier, mix_c, mix_m, cI_some, cV_some, bi_0, bi_ne, bi_1, Classical.not_not, if_pos, if_neg, wI_ok, e_keepM, m_rememberM, up_mixc, up_mixm, keepC_ne, remM_ne, ↓reduceIte, not_true_eq_false, up_s, up_a, up_i, ne_eq, Nat.reduceEqDiff, not_false_eq_true]
      · intro k hk
        simp only [up_s, up_a, up_i, ne_eq, Nat.reduceEqDiff, not_false_eq_true] at hk ⊢
        exact t3 k (by omega)
    · exact resL_up2 rfl (resL_up2 rfl (resL_up2 rfl rfl))
  · apply Pr_ro i
    rw [q3_0, q181_0]
    simp (disch := omega) only [e_isTold, e_hasFort, e_hasCarrier, e_isWay, e_isPowder, e_isNews, m_isIn, m_isFort, m_isCarrier, mix_c, mix_m, cI_some, cV_some, bi_0, bi_ne, bi_1, Classical.not_not, if_pos, if_neg, wI_ok, e_keepM, m_rememberM, up_mixc, up_mixm, keepC_ne, remM_ne, ↓reduceIte, not_true_eq_false, up_s, up_a, up_i, ne_eq, Nat.reduceEqDiff, not_false_eq_true, t2]
    repeat' (first | (apply Bo_if <;> intro _) | (apply Bo_if2 <;> intro _))
    all_goals first | (exfalso; omega) | (apply Bo_ret; first | rfl | omega | (congr 1; omega))
