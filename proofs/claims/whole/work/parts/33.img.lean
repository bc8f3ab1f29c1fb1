/-! image and back -/
theorem m_copyT (d : Nat) (h : MH) (h0 : 0 ≤ h 110 36) (h1 : h 110 36 ≤ 60) : Run d 256 0 [vR 110, vR 111, vU, vU] [] h = some (none, cpy h (h 110) 111 0 0 (37 + 4 * h 110 36).toNat) := by
  rw [q256_0, wI_ok (x := 4 * _) (by omega) (by omega), wI_ok (by omega) (by omega)]
  have := copy_loop (L := fun x h2 => Run d 256 12 [vR 110, vR 111, .inl (37 + 4 * h 110 36), .inl x] [] h2) (fin := fun h => some (none, h)) (s := 110) (d := 111) (sp := 0) (dp := 0) (n := 37 + 4 * h 110 36) (P := fun _ => True) (fun h j v hp => trivial)
    (fun h x hp hx => by
      rw [q256_12, if_pos hx])
    (fun h x hp h0 hx => by
      rw [q256_12]
      simp (disch := omega) only [wI_ok, if_neg, if_pos]
      rw [Nat.zero_add])
    (Or.inl (by omega)) h trivial (by omega)
  exact this
theorem m_copyI (d : Nat) (h : MH) (h0 : 0 ≤ h 110 36) (h1 : h 110 36 ≤ 60) : Run d 256 0 [vR 110, vR 119, vU, vU] [] h = some (none, cpy h (h 110) 119 0 0 (37 + 4 * h 110 36).toNat) := by
  rw [q256_0_1, wI_ok (x := 4 * _) (by omega) (by omega), wI_ok (by omega) (by omega)]
  have := copy_loop (L := fun x h2 => Run d 256 12 [vR 110, vR 119, .inl (37 + 4 * h 110 36), .inl x] [] h2) (fin := fun h => some (none, h)) (s := 110) (d := 119) (sp := 0) (dp := 0) (n := 37 + 4 * h 110 36) (P := fun _ => True) (fun h j v hp => trivial)
    (fun h x hp hx => by
      rw [q256_12_1, if_pos hx])
    (fun h x hp h0 hx => by
      rw [q256_12_1]
      simp (disch := omega) only [wI_ok, if_neg, if_pos]
      rw [Nat.zero_add])
    (Or.inl (by omega)) h trivial (by omega)
  exact this
theorem m_copyB (d : Nat) (h : MH) (h0 : 0 ≤ h 119 36) (h1 : h 119 36 ≤ 60) : Run d 256 0 [vR 119, vR 110, vU, vU] [] h = some (none, cpy h (h 119) 110 0 0 (37 + 4 * h 119 36).toNat) := by
  rw [q256_0_2, wI_ok (x := 4 * _) (by omega) (by omega), wI_ok (by omega) (by omega)]
  have := copy_loop (L := fun x h2 => Run d 256 12 [vR 119, vR 110, .inl (37 + 4 * h 119 36), .inl x] [] h2) (fin := fun h => some (none, h)) (s := 119) (d := 110) (sp := 0) (dp := 0) (n := 37 + 4 * h 119 36) (P := fun _ => True) (fun h j v hp => trivial)
    (fun h x hp hx => by
      rw [q256_12_2, if_pos hx])
    (fun h x hp h0 hx => by
      rw [q256_12_2]
      simp (disch := omega) only [wI_ok, if_neg, if_pos]
      rw [Nat.zero_add])
    (Or.inl (by omega)) h trivial (by omega)
  exact this
theorem c_image {b : Int} {h : MH} (i : Inv0 b h) : Pr b b 110 304 [vR 0] [vR 97] h := by
  obtain ⟨l1, l2, l3, l4, l5, l6, l7⟩ := lg_n i
  by_cases q : 0 < h 2 3
  · obtain ⟨-, -, -, ⟨L, M, ⟨r1, r2, r3, r4⟩, -, -, hM⟩, -⟩ := (Inv0_iff b h).mp i
    obtain ⟨-, -, s1, s2, s3, s4, s5, s6⟩ := id r1
    have s7 := r2.1.2.2.2.2.2
    have s8 : 0 ≤ h 110 36 ∧ h 110 36 ≤ 60 := by rw [s6]; split <;> omega
    apply Pr_M
    refine ⟨h 91 4, up (cpy (cpy h (h 91) 95 0 0 37) (h 92) 96 0 0 400) 0 13 1, up (cpy (up h 97 0 0) (h 110) 119 0 0 (37 + 4 * h 110 36).toNat) 97 51 1, fun g => ?_, fun g => ?_, ?_, ?_⟩
    · rw [q110_0]
      simp (disch := omega) only [q111_0, e_isTold, cI_some, cV_some, mix_c, cpy_mixc, up_mixc, bi_0, bi_ne, bi_1, Classical.not_not, if_pos, cpy_ne, up_s, up_a, up_i, ne_eq, Nat.reduceEqDiff, not_false_eq_true]
    · rw [q304_0, up_mixm (by omega), mix_m (by omega), up_i (by omega), l1, if_pos (by omega), m_copyI _ _ (by rw [mix_m (by omega), up_a (by omega)]; exact s8.1) (by rw [mix_m (by omega), up_a (by omega)]; exact s8.2), cV_some, cpy_mixm (by omega), up_mixm (by omega)]
      simp (disch := omega) only [mix_m, up_s, up_a, up_i, ne_eq, Nat.reduceEqDiff, not_false_eq_true, cpy_ne, up_ne, s5]
    · refine Inv_Img i (fun a j r n => ?_) ⟨?_, Or.inr ?_, fun _ => ⟨?_, L, M, ?_, ?_, ?_, ?_, ?_⟩⟩
      · by_cases z0 : a < 97
        · rw [mix_c z0]
          have e : up (cpy (cpy h (h 91) 95 0 0 37) (h 92) 96 0 0 400) 0 13 1 a j = (cpy (cpy h (h 91) 95 0 0 37) (h 92) 96 0 0 400) a j := by
            by_cases z : a = 0
            · subst z; exact up_i (by omega)
            · exact up_a z
          rw [e, cpy_ne (by omega), cpy_ne (by omega)]
        · rw [mix_m z0]
          by_cases z : a = 97
          · subst z
            rw [up_i (by omega), cpy_ne (by omega)]
            by_cases z2 : j = 0
            · subst z2; exact absurd r Bool.false_ne_true
            · rw [up_i z2]
          · rw [up_a z, cpy_ne (by omega), up_a z]
      · rw [mix_m (by omega), mix_c (by omega), up_s, up_s]
      · rw [mix_c (by omega), up_s]
      · rw [mix_c (by omega), up_a (by omega), cpy_ne (by omega), cpy_ne (by omega)]; exact q
      · refine stR_congr (fun j hj => ?_) (fun j hj => ?_) r1
        · rw [mix_c (by omega), up_a (by omega), cpy_ne (by omega), cpy_at]
          dsimp only
          rw [if_pos (by omega), Nat.zero_add, Nat.sub_zero]
        · rw [mix_m (by omega), up_a (by omega), cpy_at]
          dsimp only
          rw [if_pos (by omega), Nat.zero_add, Nat.sub_zero]
      · rw [mix_c (by omega), mix_c (by omega), up_a (by omega), up_a (by omega), cpy_ne (by omega), cpy_ne (by omega)]
        refine stOK_congr (Int.le_refl b) (fun j hj => ?_) l4 l6 r2
        rw [up_a (by omega), cpy_ne (by omega), cpy_at]
        dsimp only
        rw [if_pos (by omega), Nat.zero_add, Nat.sub_zero]
      · refine lgR_congr2 ?_ (fun _ _ _ _ => rfl) (fun j h37 hj => ?_) r3
        · rw [mix_c (by omega), up_a (by omega), cpy_ne (by omega), cpy_at]
          rfl
        · rw [mix_m (by omega), up_a (by omega), cpy_at]
          dsimp only
          rw [← s6] at hj
          rw [if_pos (by omega), Nat.zero_add, Nat.sub_zero]
      · have e5 : mix (up (cpy (cpy h (h 91) 95 0 0 37) (h 92) 96 0 0 400) 0 13 1) (up (cpy (up h 97 0 0) (h 110) 119 0 0 (37 + 4 * h 110 36).toNat) 97 51 1) 95 5 = h 91 5 := by
          rw [mix_c (by omega), up_a (by omega), cpy_ne (by omega), cpy_at]
          rfl
        rw [e5]
        refine ⟨r4.1, fun n hn hm w hw => ?_⟩
        rw [mix_c (by omega), up_a (by omega), cpy_at]
        dsimp only
        rw [if_pos (by omega), Nat.zero_add, Nat.sub_zero]
        exact r4.2 n hn hm w hw
      · rw [mix_c (by omega), up_a (by omega), cpy_ne (by omega), cpy_at]
        exact hM
    · rw [mix_self]
      apply resL_e
      intro a j r
      have g1 : a ≠ 119 := fun z => by subst z; exact Bool.false_ne_true r
      have g2 : a ≠ 95 := fun z => by subst z; exact Bool.false_ne_true r
      have g3 : a ≠ 96 := fun z => by subst z; exact Bool.false_ne_true r
      have g4 : a ≠ 0 := fun z => by subst z; exact Bool.false_ne_true r
      by_cases z0 : a < 97
      · rw [mix_c z0, up_a g4, cpy_ne g3, cpy_ne g2]
      · rw [mix_m z0]
        by_cases z : a = 97
        · subst z
          have z1 : j ≠ 51 := fun z => by subst z; exact Bool.false_ne_true r
          have z2 : j ≠ 0 := fun z => by subst z; exact Bool.false_ne_true r
          rw [up_i z1, cpy_ne g1, up_i z2]
        · rw [up_a z, cpy_ne g1, up_a z]
  · apply Pr_ro i
    rw [q110_0, q304_0]
    simp (disch := omega) only [e_isTold, e_hasFort, e_hasCarrier, e_isWay, e_isPowder, e_isNews, m_isIn, m_isFort, m_isCarrier, mix_c, mix_m, cI_some, cV_some, bi_0, bi_ne, bi_1, Classical.not_not, if_pos, if_neg, wI_ok, e_keepM, m_rememberM, up_mixc, up_mixm, keepC_ne, remM_ne, ↓reduceIte, not_true_eq_false, up_s, up_a, up_i, ne_eq, Nat.reduceEqDiff, not_false_eq_true, l1]
    repeat' (first | (apply Bo_if <;> intro _) | (apply Bo_if2 <;> intro _))
    all_goals first | (exfalso; omega) | (apply Bo_ret; first | rfl | omega | (congr 1; omega))
theorem c_back {b : Int} {h : MH} (i : Inv0 b h) : Pr b b 112 305 [vR 0] [vR 97] h := by
  obtain ⟨l1, l2, l3, l4, l5, l6, l7⟩ := lg_n i
  obtain ⟨hh1, hh2, hh3⟩ := hist_n i
  obtain ⟨-, -, -, -, ⟨k1, k2, k3⟩, -⟩ := (Inv0_iff b h).mp i
  by_cases q : h 0 13 = 1
  · obtain ⟨k4, L, M, r1, r2, r3, r4, hM⟩ := k3 q
    obtain ⟨-, -, s1, s2, s3, s4, s5, s6⟩ := id r1
    have s7 := r2.1.2.2.2.2.2
    have s8 : 0 ≤ h 119 36 ∧ h 119 36 ≤ 60 := by rw [s6]; split <;> omega
    apply Pr_M
    refine ⟨h 95 4, up (cpy (cpy h (h 95) 91 0 0 37) (h 96) 92 0 0 400) 11 0 0, up (cpy (up h 97 0 0) (h 119) 110 0 0 (37 + 4 * h 119 36).toNat) 97 37 0, fun g => ?_, fun g => ?_, ?_, ?_⟩
    · rw [q112_0, q111_0_1]
      simp (disch := omega) only [cI_some, cV_some, mix_c, cpy_mixc, up_mixc, q53_0, bi_0, bi_ne, bi_1, Classical.not_not, if_pos, cpy_ne, up_s, up_a, up_i, ne_eq, Nat.reduceEqDiff, not_false_eq_true]
      rw [cpy_at]
      rfl
    · rw [q305_0, up_mixm (by omega), mix_m (by omega), up_i (by omega), k1, if_pos (by omega), m_copyB _ _ (by rw [mix_m (by omega), up_a (by omega)]; exact s8.1) (by rw [mix_m (by omega), up_a (by omega)]; exact s8.2), cV_some, cpy_mixm (by omega), up_mixm (by omega)]
      simp (disch := omega) only [mix_m, up_s, up_a, up_i, ne_eq, Nat.reduceEqDiff, not_false_eq_true, cpy_ne, up_ne]
      rw [cpy_at]
      dsimp only
      rw [if_pos (by omega), ← s5]
    · have e5 : mix (up (cpy (cpy h (h 95) 91 0 0 37) (h 96) 92 0 0 400) 11 0 0) (up (cpy (up h 97 0 0) (h 119) 110 0 0 (37 + 4 * h 119 36).toNat) 97 37 0) 91 5 = h 95 5 := by
        rw [mix_c (by omega), up_a (by omega), cpy_ne (by omega), cpy_at]
        rfl
      refine Inv_but i (Int.le_refl b) (fun a j r h1 h2 h3 h4 h5 h6 h7 => ?_) ⟨L, M, ⟨?_, ?_, ?_, ?_⟩, ⟨?_, ?_, ?_⟩, fun j hj => ?_, ?_⟩
      · by_cases z0 : a < 97
        · rw [mix_c z0, up_a h5, cpy_ne h2, cpy_ne h1]
        · rw [mix_m z0]
          by_cases z : a = 97
          · subst z
            rw [up_i (fun z => h7 ⟨rfl, z⟩), cpy_ne h3]
            by_cases z2 : j = 0
            · subst z2; exact absurd r Bool.false_ne_true
            · rw [up_i z2]
          · rw [up_a z, cpy_ne h3, up_a z]
      · refine stR_congr (fun j hj => ?_) (fun j hj => ?_) r1
        · rw [mix_c (by omega), up_a (by omega), cpy_ne (by omega), cpy_at]
          dsimp only
          rw [if_pos (by omega), Nat.zero_add, Nat.sub_zero]
        · rw [mix_m (by omega), up_a (by omega), cpy_at]
          dsimp only
          rw [if_pos (by omega), Nat.zero_add, Nat.sub_zero]
      · rw [mix_c (by omega), mix_c (by omega), up_a (by omega), up_a (by omega), cpy_ne (by omega), cpy_ne (by omega)]
        refine stOK_congr (Int.le_refl b) (fun j hj => ?_) l4 l6 r2
        rw [up_a (by omega), cpy_ne (by omega), cpy_at]
        dsimp only
        rw [if_pos (by omega), Nat.zero_add, Nat.sub_zero]
      · refine lgR_congr2 e5 (fun _ _ _ _ => rfl) (fun j h37 hj => ?_) r3
        rw [mix_m (by omega), up_a (by omega), cpy_at]
        dsimp only
        rw [← s6] at hj
        rw [if_pos (by omega), Nat.zero_add, Nat.sub_zero]
      · rw [e5]
        refine ⟨r4.1, fun n hn hm w hw => ?_⟩
        rw [mix_c (by omega), up_a (by omega), cpy_at]
        dsimp only
        rw [if_pos (by omega), Nat.zero_add, Nat.sub_zero]
        exact r4.2 n hn hm w hw
      · rw [mix_c (by omega), up_s]; omega
      · rw [mix_c (by omega), up_i (by omega), cpy_ne (by omega), cpy_ne (by omega)]; exact hh2
      · rw [mix_m (by omega), mix_c (by omega), up_s, up_s]
      · exfalso
        rw [mix_c (by omega), up_s] at hj
        omega
      · rw [e5]; exact hM
    · rw [mix_self]
      apply resL_e
      intro a j r
      have g1 : a ≠ 110 := fun z => by subst z; exact Bool.false_ne_true r
      have g2 : a ≠ 91 := fun z => by subst z; exact Bool.false_ne_true r
      have g3 : a ≠ 92 := fun z => by subst z; exact Bool.false_ne_true r
      have g4 : a ≠ 11 := fun z => by subst z; exact Bool.false_ne_true r
      by_cases z0 : a < 97
      · rw [mix_c z0, up_a g4, cpy_ne g3, cpy_ne g2]
      · rw [mix_m z0]
        by_cases z : a = 97
        · subst z
          have z1 : j ≠ 37 := fun z => by subst z; exact Bool.false_ne_true r
          have z2 : j ≠ 0 := fun z => by subst z; exact Bool.false_ne_true r
          rw [up_i z1, cpy_ne g1, up_i z2]
        · rw [up_a z, cpy_ne g1, up_a z]
  · apply Pr_ro i
    rw [q112_0, q305_0]
    simp only [up_s, up_a, up_i, ne_eq, Nat.reduceEqDiff, not_false_eq_true, k1]
    have q2 : h 0 13 = 0 := k2.resolve_right q
    simp only [q2, not_true_eq_false, if_false]
    exact Bo_ret rfl
