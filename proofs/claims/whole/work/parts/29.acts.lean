/-! acts by hand -/
theorem e_canHear (d : Nat) (x y : Int) (h : MH) (h8 : h 2 3 ≤ 8) : Run (d + 1) 91 0 [vR 0, vR 12, .inl x, .inl y] [] h = some (some (.inl (bi ((0 ≤ x ∧ x < h 2 3) ∧ (0 ≤ y ∧ y < 6) ∧ iAnd (iShr (h 91 (29 + x).toNat) y) 1 = 0))), h) := by
  rw [q91_0]
  simp only [e_hasFort, e_isNews, cI_some, bi_0, bi_ne, bi_1, Classical.not_not]
  by_cases q : 0 ≤ x ∧ x < h 2 3
  · obtain ⟨q1, q2⟩ := q
    by_cases q3 : 0 ≤ y ∧ y < 6
    · simp (disch := omega) only [wI_ok, if_pos, if_neg, cI_some, cV_some, cJ_some, ↓reduceIte, not_true_eq_false, not_false_eq_true]
      rcases and1 (iShr (h 91 (29 + x).toNat) y) with z | z <;> rw [z] <;> simp [q1, q2, q3, bi]
    · simp [q1, q2, q3, bi]
  · simp [q, bi]
theorem m_canHear (d : Nat) (x y : Int) (h : MH) (h8 : h 97 26 ≤ 8) : Run (d + 1) 238 0 [vR 97, vR 110, .inl x, .inl y] [] h = some (some (.inl (bi ((0 ≤ x ∧ x < h 97 26) ∧ (0 ≤ y ∧ y < 6) ∧ iAnd (iShr (h 110 (8 + x).toNat) y) 1 = 0))), h) := by
  rw [q238_0]
  simp only [m_isFort, m_isIn, cI_some, bi_0, bi_ne, bi_1, Classical.not_not, m_has]
  by_cases q : 0 ≤ x ∧ x < h 97 26
  · obtain ⟨q1, q2⟩ := q
    by_cases q3 : 0 ≤ y ∧ y < 6
    · have q4 : y ≤ 5 := by omega
      simp (disch := omega) only [wI_ok, if_pos, if_neg, cI_some, cV_some, cJ_some, ↓reduceIte, not_true_eq_false, not_false_eq_true]
      rcases and1 (iShr (h 110 (8 + x).toNat) y) with z | z <;> rw [z] <;> simp [q1, q2, q3, bi]
    · have q4 : ¬ (0 ≤ y ∧ y ≤ 5) := by omega
      simp [q1, q2, q3, q4, bi]
  · simp [q, bi]
/-- where both say no -/
theorem Pr_no {b : Int} {kc km : Nat} {ac am : List MV} {h : MH} {v : Int} (i : Inv0 b h) (q1 : Run 40 kc 0 ac [] h = some (some (.inl v), h)) (q2 : Run 40 km 0 am [] h = some (some (.inl v), up h 97 0 0)) : Pr b b kc km ac am h := Pr_ro i ⟨v, q1, q2⟩
theorem c_hear {b : Int} {h : MH} (i : Inv0 b h) (x y : Int) : Pr b b 90 237 [vR 0, .inl x, .inl y] [vR 97, .inl x, .inl y] h := by
  obtain ⟨l1, l2, l3, l4, l5, l6, l7⟩ := lg_n i
  have r := nowR i
  have o := nowOK i
  obtain ⟨hh1, hh2, hh3⟩ := hist_n i
  by_cases q : (0 ≤ x ∧ x < h 2 3) ∧ (0 ≤ y ∧ y < 6) ∧ iAnd (iShr (h 91 (29 + x).toNat) y) 1 = 0
  · obtain ⟨⟨q1, q2⟩, q3, q4⟩ := q
    have e := st_news r x q1 (by omega)
    apply Pr_M
    have v1 := so_news o x q1 (by omega)
    have v2 := shl_le (n := 6) q3.1 q3.2 (by omega)
    have v3 := or_le (k := 6) (by omega) v1.1 (by omega) v2.1 v2.2
    refine ⟨1, up (keepC h) 91 (29 + x).toNat (iOr (h 91 (29 + x).toNat) (iShl 1 y)), up (remM (up h 97 0 0)) 110 (8 + x).toNat (iOr (h 110 (8 + x).toNat) (iShl 1 y)), fun g => ?_, fun g => ?_, ?_⟩
    · rw [q90_0, e_canHear _ _ _ _ (show mix h g 2 3 ≤ 8 from l4), cI_some, bi_t (show _ from ⟨⟨q1, q2⟩, q3, q4⟩), if_pos (by omega), e_keep _ _ (show 0 ≤ mix h g 11 2 from hh2.1) hh2.2 hh1.1 hh1.2, cV_some, keepC_mix hh2.2]
      simp (disch := omega) only [wI_ok, if_pos, if_neg, cI_some, cV_some, cJ_some, ↓reduceIte, not_true_eq_false, not_false_eq_true]
      rw [up_mixc (by omega), mix_c (by omega), keepC_ne hh2.2 (by omega) (by omega)]
    · rw [q237_0, up_mixm (by omega), m_canHear _ _ _ _ (by show h 97 26 ≤ 8; omega), cI_some, bi_t (show _ from ⟨⟨q1, by show x < h 97 26; omega⟩, q3, by show iAnd (iShr (h 110 (8 + x).toNat) y) 1 = 0; rw [e]; exact q4⟩), if_pos (by omega), m_remember _ _ (by show 0 ≤ h 97 37; omega) (by show h 97 37 ≤ 40; omega), cV_some, remM_mix]
      simp (disch := omega) only [wI_ok, if_pos, if_neg, cI_some, cV_some, cJ_some, ↓reduceIte, not_true_eq_false, not_false_eq_true]
      rw [up_mixm (by omega), mix_m (by omega), remM_ne (by omega) (by omega)]
      rfl
    · rw [← mix_self h] at i
      refine (fun z => ⟨z.1, z.2⟩) (Inv_actN i (fun a ha => up_ne ha) (fun a ha => up_ne ha) ?_ ?_ ?_ ?_)
      · rw [up_row, up_row, keepC_ne hh2.2 (by omega) (by omega), remM_ne (by omega) (by omega), up_ne (show 110 ≠ 97 by omega), e]
        exact stR_news r x _ q1 (by omega)
      · rw [up_row, keepC_ne hh2.2 (by omega) (by omega)]
        exact stOK_news o x _ q1 q2 ⟨v3.1, by omega⟩ l6 l4
      · rw [up_i (by omega), keepC_ne hh2.2 (by omega) (by omega)]
      · intro j hj _
        rw [up_i (by omega), remM_ne (by omega) (by omega), up_ne (show 110 ≠ 97 by omega)]
  · apply Pr_no i (v := 0)
    · rw [q90_0, e_canHear _ _ _ _ l4, cI_some, bi_f q, if_neg (by omega)]
    · rw [q237_0, m_canHear _ _ _ _ (by show h 97 26 ≤ 8; omega), cI_some, bi_f, if_neg (by omega)]
      rintro ⟨⟨q1, q2⟩, q3, q4⟩
      have q2' : x < h 97 26 := q2
      apply q ⟨⟨q1, by omega⟩, q3, _⟩
      rw [← st_news r x q1 (by omega)]
      exact q4
/-- an act that changes one number -/
theorem Pr_one {b : Int} {kc km : Nat} {ac am : List MV} {h : MH} {v a : Int} {J K : Nat} (i : Inv0 b h) (hJ : J < 37) (hJ5 : J ≠ 5) (hK : K < 37) (q1 : ∀ g, Run 40 kc 0 ac [] (mix h g) = some (some (.inl v), mix (up (keepC h) 91 J a) g)) (q2 : ∀ g, Run 40 km 0 am [] (mix g h) = some (some (.inl v), mix g (up (remM (up h 97 0 0)) 110 K a)))
    (st : stR (su (h 91) J a) (su (h 110) K a)) (ok : stOK (h 2 3) (h 2 4) b (su (h 91) J a)) : Pr b b kc km ac am h := by
  obtain ⟨hh1, hh2, hh3⟩ := hist_n i
  apply Pr_M
  refine ⟨v, _, _, q1, q2, ?_⟩
  rw [← mix_self h] at i
  refine (fun z => ⟨z.1, z.2⟩) (Inv_actN i (fun a ha => up_ne ha) (fun a ha => up_ne ha) ?_ ?_ ?_ ?_)
  · rw [up_row, up_row, keepC_ne hh2.2 (by omega) (by omega), remM_ne (by omega) (by omega), up_ne (show 110 ≠ 97 by omega)]
    exact st
  · rw [up_row, keepC_ne hh2.2 (by omega) (by omega)]
    exact ok
  · rw [up_i (Ne.symm hJ5), keepC_ne hh2.2 (by omega) (by omega)]
  · intro j hj _
    rw [up_i (by omega), remM_ne (by omega) (by omega), up_ne (show 110 ≠ 97 by omega)]
theorem c_stack {b : Int} {h : MH} (i : Inv0 b h) (x y : Int) : Pr b b 93 239 [vR 0, .inl x, .inl y] [vR 97, .inl x, .inl y] h := by
  obtain ⟨l1, l2, l3, l4, l5, l6, l7⟩ := lg_n i
  have r := nowR i
  have o := nowOK i
  obtain ⟨hh1, hh2, hh3⟩ := hist_n i
  by_cases q0 : (0 ≤ x ∧ x < h 2 3) ∧ (1 ≤ y ∧ y ≤ 9)
  · obtain ⟨⟨q1, q2⟩, q3⟩ := q0
    have e := st_hay r x q1 (by omega)
    have v1 := so_hay o x q1 (by omega)
    by_cases q4 : h 91 (21 + x).toNat + y ≤ 9
    · refine Pr_one i (a := h 91 (21 + x).toNat + y) (v := h 91 (21 + x).toNat + y) (J := (21 + x).toNat) (K := x.toNat) (by omega) (by omega) (by omega) (fun g => ?_) (fun g => ?_) (stR_hay r x _ q1 (by omega)) (stOK_hay o x _ q1 q2 (by omega) l6 l4)
      · rw [q93_0]
        simp (disch := omega) only [e_isTold, e_hasFort, e_hasCarrier, e_isWay, e_isPowder, e_isNews, m_isIn, m_isFort, m_isCarrier, mix_c, mix_m, cI_some, cV_some, bi_0, bi_ne, bi_1, Classical.not_not, if_pos, if_neg, wI_ok, e_keepM, m_rememberM, up_mixc, up_mixm, keepC_ne, remM_ne, ↓reduceIte, not_true_eq_false, up_s, up_a, up_i, ne_eq, Nat.reduceEqDiff, not_false_eq_true]
      · rw [q239_0]
        simp (disch := omega) only [e_isTold, e_hasFort, e_hasCarrier, e_isWay, e_isPowder, e_isNews, m_isIn, m_isFort, m_isCarrier, mix_c, mix_m, cI_some, cV_some, bi_0, bi_ne, bi_1, Classical.not_not, if_pos, if_neg, wI_ok, e_keepM, m_rememberM, up_mixc, up_mixm, keepC_ne, remM_ne, ↓reduceIte, not_true_eq_false, up_s, up_a, up_i, ne_eq, Nat.reduceEqDiff, not_false_eq_true, l1, Int.zero_add, e]
    · apply Pr_no i (v := -1)
      · rw [q93_0]
        simp (disch := omega) only [e_isTold, e_hasFort, e_hasCarrier, e_isWay, e_isPowder, e_isNews, m_isIn, m_isFort, m_isCarrier, mix_c, mix_m, cI_some, cV_some, bi_0, bi_ne, bi_1, Classical.not_not, if_pos, if_neg, wI_ok, e_keepM, m_rememberM, up_mixc, up_mixm, keepC_ne, remM_ne, ↓reduceIte, not_true_eq_false, up_s, up_a, up_i, ne_eq, Nat.reduceEqDiff, not_false_eq_true]
      · rw [q239_0]
        simp (disch := omega) only [e_isTold, e_hasFort, e_hasCarrier, e_isWay, e_isPowder, e_isNews, m_isIn, m_isFort, m_isCarrier, mix_c, mix_m, cI_some, cV_some, bi_0, bi_ne, bi_1, Classical.not_not, if_pos, if_neg, wI_ok, e_keepM, m_rememberM, up_mixc, up_mixm, keepC_ne, remM_ne, ↓reduceIte, not_true_eq_false, up_s, up_a, up_i, ne_eq, Nat.reduceEqDiff, not_false_eq_true, l1, Int.zero_add, e]
  · apply Pr_ro i
    rw [q93_0, q239_0]
    simp (disch := omega) only [e_isTold, e_hasFort, e_hasCarrier, e_isWay, e_isPowder, e_isNews, m_isIn, m_isFort, m_isCarrier, mix_c, mix_m, cI_some, cV_some, bi_0, bi_ne, bi_1, Classical.not_not, if_pos, if_neg, wI_ok, e_keepM, m_rememberM, up_mixc, up_mixm, keepC_ne, remM_ne, ↓reduceIte, not_true_eq_false, up_s, up_a, up_i, ne_eq, Nat.reduceEqDiff, not_false_eq_true, l1]
    repeat' (first | (apply Bo_if <;> intro _) | (apply Bo_if2 <;> intro _))
    all_goals first | (exfalso; omega) | (apply Bo_ret; first | rfl | omega | (congr 1; omega))
theorem c_grind {b : Int} {h : MH} (i : Inv0 b h) (x : Int) : Pr b b 94 240 [vR 0, .inl x] [vR 97, .inl x] h := by
  obtain ⟨l1, l2, l3, l4, l5, l6, l7⟩ := lg_n i
  have r := nowR i
  have o := nowOK i
  obtain ⟨hh1, hh2, hh3⟩ := hist_n i
  obtain ⟨-, -, s1, s2, s3, s4, s5, s6⟩ := nowR i
  have v1 := o.1.1
  by_cases q0 : 0 < h 2 3 ∧ (1 ≤ x ∧ x ≤ 50)
  · obtain ⟨q1, q2⟩ := q0
    by_cases q4 : h 91 0 + x ≤ 99
    · refine Pr_one i (a := h 91 0 + x) (v := h 91 0 + x) (J := 0) (K := 31) (by omega) (by omega) (by omega) (fun g => ?_) (fun g => ?_) (stR_x r 0 _ (by omega)) (stOK_x o 0 _ (by omega) l6 l4 (by omega) (by omega) (by omega) (by omega) (by omega))
      · rw [q94_0]
        simp (disch := omega) only [e_isTold, e_hasFort, e_hasCarrier, e_isWay, e_isPowder, e_isNews, m_isIn, m_isFort, m_isCarrier, mix_c, mix_m, cI_some, cV_some, bi_0, bi_ne, bi_1, Classical.not_not, if_pos, if_neg, wI_ok, e_keepM, m_rememberM, up_mixc, up_mixm, keepC_ne, remM_ne, ↓reduceIte, not_true_eq_false, up_s, up_a, up_i, ne_eq, Nat.reduceEqDiff, not_false_eq_true]
      · rw [q240_0]
        simp (disch := omega) only [e_isTold, e_hasFort, e_hasCarrier, e_isWay, e_isPowder, e_isNews, m_isIn, m_isFort, m_isCarrier, mix_c, mix_m, cI_some, cV_some, bi_0, bi_ne, bi_1, Classical.not_not, if_pos, if_neg, wI_ok, e_keepM, m_rememberM, up_mixc, up_mixm, keepC_ne, remM_ne, ↓reduceIte, not_true_eq_false, up_s, up_a, up_i, ne_eq, Nat.reduceEqDiff, not_false_eq_true, l1, s1]
    · apply Pr_no i (v := -1)
      · rw [q94_0]
        simp (disch := omega) only [e_isTold, e_hasFort, e_hasCarrier, e_isWay, e_isPowder, e_isNews, m_isIn, m_isFort, m_isCarrier, mix_c, mix_m, cI_some, cV_some, bi_0, bi_ne, bi_1, Classical.not_not, if_pos, if_neg, wI_ok, e_keepM, m_rememberM, up_mixc, up_mixm, keepC_ne, remM_ne, ↓reduceIte, not_true_eq_false, up_s, up_a, up_i, ne_eq, Nat.reduceEqDiff, not_false_eq_true]
      · rw [q240_0]
        simp (disch := omega) only [e_isTold, e_hasFort, e_hasCarrier, e_isWay, e_isPowder, e_isNews, m_isIn, m_isFort, m_isCarrier, mix_c, mix_m, cI_some, cV_some, bi_0, bi_ne, bi_1, Classical.not_not, if_pos, if_neg, wI_ok, e_keepM, m_rememberM, up_mixc, up_mixm, keepC_ne, remM_ne, ↓reduceIte, not_true_eq_false, up_s, up_a, up_i, ne_eq, Nat.reduceEqDiff, not_false_eq_true, l1, s1]
  · apply Pr_ro i
    rw [q94_0, q240_0]
    simp (disch := omega) only [e_isTold, e_hasFort, e_hasCarrier, e_isWay, e_isPowder, e_isNews, m_isIn, m_isFort, m_isCarrier, mix_c, mix_m, cI_some, cV_some, bi_0, bi_ne, bi_1, Classical.not_not, if_pos, if_neg, wI_ok, e_keepM, m_rememberM, up_mixc, up_mixm, keepC_ne, remM_ne, ↓reduceIte, not_true_eq_false, up_s, up_a, up_i, ne_eq, Nat.reduceEqDiff, not_false_eq_true, l1]
    repeat' (first | (apply Bo_if <;> intro _) | (apply Bo_if2 <;> intro _))
    all_goals first | (exfalso; omega) | (apply Bo_ret; first | rfl | omega | (congr 1; omega))
theorem c_damp {b : Int} {h : MH} (i : Inv0 b h) (x : Int) : Pr b b 97 244 [vR 0, .inl x] [vR 97, .inl x] h := by
  obtain ⟨l1, l2, l3, l4, l5, l6, l7⟩ := lg_n i
  have r := nowR i
  have o := nowOK i
  obtain ⟨hh1, hh2, hh3⟩ := hist_n i
  obtain ⟨-, -, s1, s2, s3, s4, s5, s6⟩ := nowR i
  by_cases q0 : 0 < h 2 3 ∧ (0 ≤ x ∧ x ≤ 9) ∧ ¬ h 91 3 = x
  · obtain ⟨q1, q2, q4⟩ := q0
    refine Pr_one i (a := x) (v := 1) (J := 3) (K := 34) (by omega) (by omega) (by omega) (fun g => ?_) (fun g => ?_) (stR_x r 3 _ (by omega)) (stOK_x o 3 _ (by omega) l6 l4 (by omega) (by omega) (by omega) (by omega) (by omega))
    · rw [q97_0]
      simp (disch := omega) only [e_isTold, e_hasFort, e_hasCarrier, e_isWay, e_isPowder, e_isNews, m_isIn, m_isFort, m_isCarrier, mix_c, mix_m, cI_some, cV_some, bi_0, bi_ne, bi_1, Classical.not_not, if_pos, if_neg, wI_ok, e_keepM, m_rememberM, up_mixc, up_mixm, keepC_ne, remM_ne, ↓reduceIte, not_true_eq_false, up_s, up_a, up_i, ne_eq, Nat.reduceEqDiff, not_false_eq_true]
    · rw [q244_0]
      simp (disch := omega) only [e_isTold, e_hasFort, e_hasCarrier, e_isWay, e_isPowder, e_isNews, m_isIn, m_isFort, m_isCarrier, mix_c, mix_m, cI_some, cV_some, bi_0, bi_ne, bi_1, Classical.not_not, if_pos, if_neg, wI_ok, e_keepM, m_rememberM, up_mixc, up_mixm, keepC_ne, remM_ne, ↓reduceIte, not_true_eq_false, up_s, up_a, up_i, ne_eq, Nat.reduceEqDiff, not_false_eq_true, l1, s4]
  · apply Pr_ro i
    rw [q97_0, q244_0]
    simp (disch := omega) only [e_isTold, e_hasFort, e_hasCarrier, e_isWay, e_isPowder, e_isNews, m_isIn, m_isFort, m_isCarrier, mix_c, mix_m, cI_some, cV_some, bi_0, bi_ne, bi_1, Classical.not_not, if_pos, if_neg, wI_ok, e_keepM, m_rememberM, up_mixc, up_mixm, keepC_ne, remM_ne, ↓reduceIte, not_true_eq_false, up_s, up_a, up_i, ne_eq, Nat.reduceEqDiff, not_false_eq_true, l1, s4]
    repeat' (first | (apply Bo_if <;> intro _) | (apply Bo_if2 <;> intro _))
    all_goals first | (exfalso; omega) | (apply Bo_ret; first | rfl | omega | (congr 1; omega))
theorem e_blows (d : Nat) (x y : Int) (h : MH) : Run d 96 0 [vR 12, .inl x, .inl y] [] h = some (some (.inl (bi (h 91 1 = x ∧ h 91 2 = y))), h) := by
  rw [q96_0]
  by_cases z : h 91 1 = x <;> by_cases z2 : h 91 2 = y <;> simp [z, z2, bi]
theorem m_canBlow (d : Nat) (x y : Int) (h : MH) : Run (d + 1) 242 0 [vR 97, vR 110, .inl x, .inl y] [] h = some (some (.inl (bi (0 < h 97 26 ∧ (0 ≤ x ∧ x ≤ 9) ∧ (0 ≤ y ∧ y ≤ 1) ∧ ¬ (h 110 32 = x ∧ h 110 33 = y)))), h) := by
  rw [q242_0]
  simp only [m_isIn, cI_some, bi_0, bi_ne, bi_1, Classical.not_not]
  by_cases q1 : h 97 26 ≤ 0
  · rw [if_pos q1, bi_f (by omega)]
  · rw [if_neg q1]
    by_cases q2 : 0 ≤ x ∧ x ≤ 9
    · rw [if_neg (fun z => z q2)]
      by_cases q3 : 0 ≤ y ∧ y ≤ 1
      · rw [if_neg (fun z => z q3)]
        by_cases z : h 110 32 = x
        · by_cases z2 : h 110 33 = y
          · rw [if_neg (fun q => q z), if_pos z2, bi_f (by omega)]
          · rw [if_neg (fun q => q z), if_neg z2, bi_t (by omega)]
        · rw [if_pos z, bi_t (by omega)]
      · rw [if_pos q3, bi_f (by omega)]
    · rw [if_pos q2, bi_f (by omega)]
theorem e_blowsT (d : Nat) (x y : Int) (h : MH) : Run d 96 0 [vR 13, .inl x, .inl y] [] h = some (some (.inl (bi (h 93 1 = x ∧ h 93 2 = y))), h) := by
  rw [q96_0_1]
  by_cases z : h 93 1 = x <;> by_cases z2 : h 93 2 = y <;> simp [z, z2, bi]
theorem m_canBlowT (d : Nat) (x y : Int) (h : MH) : Run (d + 1) 242 0 [vR 97, vR 111, .inl x, .inl y] [] h = some (some (.inl (bi (0 < h 97 26 ∧ (0 ≤ x ∧ x ≤ 9) ∧ (0 ≤ y ∧ y ≤ 1) ∧ ¬ (h 111 32 = x ∧ h 111 33 = y)))), h) := by
  rw [q242_0_1]
  simp only [m_isIn, cI_some, bi_0, bi_ne, bi_1, Classical.not_not]
  by_cases q1 : h 97 26 ≤ 0
  · rw [if_pos q1, bi_f (by omega)]
  · rw [if_neg q1]
    by_cases q2 : 0 ≤ x ∧ x ≤ 9
    · rw [if_neg (fun z => z q2)]
      by_cases q3 : 0 ≤ y ∧ y ≤ 1
      · rw [if_neg (fun z => z q3)]
        by_cases z : h 111 32 = x
        · by_cases z2 : h 111 33 = y
          · rw [if_neg (fun q => q z), if_pos z2, bi_f (by omega)]
          · rw [if_neg (fun q => q z), if_neg z2, bi_t (by omega)]
        · rw [if_pos z, bi_t (by omega)]
      · rw [if_pos q3, bi_f (by omega)]
    · rw [if_pos q2, bi_f (by omega)]
