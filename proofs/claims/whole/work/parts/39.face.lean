/-! rests, face, seen -/
theorem rests_neg {x y p i n u v : Int} {z : MV} {h : MH} (hz : cat z = 1) (hx0 : 0 ≤ x) (hx1 : x < 5) (hy0 : 0 ≤ y) (hy1 : y < 5) (hn0 : 0 ≤ n) (hn1 : n ≤ 50) (hu : u = 0 ∨ u = 1) (hv : v = 0 ∨ v = 1) (hi : i < 0) : ∃ n2 z2, cat z2 = 1 ∧ 0 ≤ n2 ∧ n2 ≤ n + 1 ∧ Run 40 167 33 [vR 0, .inl x, .inl y, .inl p, .inl i, .inl n, .inl u, .inl v, z] [] h = Run 40 167 33 [vR 0, .inl x, .inl y, .inl p, .inl i, .inl n2, .inl u, .inl (v + 1), z2] [] h := by
  obtain ⟨a, a1, a2, a3, a4⟩ := e_rests1 38 x y p i n u v z hz h hx0 hx1 hy0 hy1 hn0 (by omega) hu hv
  by_cases q : stF (h 18 (3 * x).toNat) (h 18 (3 * y).toNat) p u v
  · exact ⟨n + 1, a, a1, by omega, by omega, a3 q (by omega)⟩
  · exact ⟨n, a, a1, by omega, by omega, a2 q⟩
theorem c_rests {b : Int} {h : MH} (i : Inv0 b h) (x y p w : Int) : Pr b b 167 288 [vR 0, .inl x, .inl y, .inl p, .inl w, vU, vU, vU, vU] [vR 97, .inl x, .inl y, .inl p, .inl w, vU, vU, vU, vU] h := by
  apply Pr_ro i
  obtain ⟨l1, l2, l3, l4, l5, l6, l7⟩ := lg_n i
  rw [q167_0, q288_0]
  simp only [e_isPair, e_isGamePowder, m_isGame, cI_some, bi_0, bi_ne, bi_1, Classical.not_not, up_s, up_a, up_i, ne_eq, Nat.reduceEqDiff, not_false_eq_true, l2]
  by_cases q : ((0 ≤ x ∧ x < h 2 4) ∧ (0 ≤ y ∧ y < h 2 4) ∧ ¬ x = y) ∧ (0 ≤ p ∧ p ≤ 20)
  · rw [if_neg (fun z => z q.1), if_pos q.2, if_neg (fun z => z q)]
    have q1 : 0 ≤ x ∧ x < 5 := by omega
    have q2 : 0 ≤ y ∧ y < 5 := by omega
    have g1 := lg_carrier i (3 * x) (by omega) (by omega)
    have g2 := lg_carrier i (3 * y) (by omega) (by omega)
    by_cases qw : -1 ≤ w
    · rw [if_pos qw, q167_24 (hz6 := rfl) (hz7 := rfl), if_neg (by omega)]
      refine rests_step (w1 := 0) (w2 := 0) (u := 0) (v := 0) (k := 0) rfl rfl rfl q1.1 q1.2 q2.1 q2.2 (by omega) (by omega) rfl rfl (by omega) (by omega) g1 g2 (fun n2 w w1 w2 c1 c2 c3 n21 n22 => ?_)
      refine rests_step (w1 := 0) (w2 := 0) (u := 0) (v := 0 + 1) (k := 0 + 1) c1 c2 c3 q1.1 q1.2 q2.1 q2.2 (by omega) (by omega) rfl rfl (by omega) (by omega) g1 g2 (fun n3 w w1 w2 c1 c2 c3 n31 n32 => ?_)
      rw [q167_33 (hz7 := c1), if_pos (by omega), q167_24 (hz6 := rfl) (hz7 := c1), wI_ok (by omega) (by omega), if_neg (by omega)]
      refine rests_step (w1 := 0) (w2 := 0) (u := 0 + 1) (v := 0) (k := 0 + 1 + 1) c1 c2 c3 q1.1 q1.2 q2.1 q2.2 (by omega) (by omega) rfl rfl (by omega) (by omega) g1 g2 (fun n4 w w1 w2 c1 c2 c3 n41 n42 => ?_)
      refine rests_step (w1 := 0) (w2 := 0) (u := 0 + 1) (v := 0 + 1) (k := 0 + 1 + 1 + 1) c1 c2 c3 q1.1 q1.2 q2.1 q2.2 (by omega) (by omega) rfl rfl (by omega) (by omega) g1 g2 (fun n5 w w1 w2 c1 c2 c3 n51 n52 => ?_)
      rw [q167_33 (hz7 := c1), if_pos (by omega), q167_24 (hz6 := rfl) (hz7 := c1), wI_ok (by omega) (by omega), if_pos (by omega), q288_29 (hz6 := c2) (hz7 := c3), if_pos (c := (4 : Int) ≤ _) (by omega)]
      repeat' (first | (apply Bo_if <;> intro _) | (apply Bo_if2 <;> intro _))
      all_goals first | (exfalso; omega) | (apply Bo_ret; first | rfl | omega | (congr 1; omega))
    · rw [if_neg qw, q167_24 (hz6 := rfl) (hz7 := rfl), if_neg (by omega)]
      obtain ⟨n2, z2, c1, d1, d2, e⟩ := rests_neg (p := p) (i := w) (n := 0) (u := 0) (v := 0) (z := vU) (h := h) rfl q1.1 q1.2 q2.1 q2.2 (by omega) (by omega) (by omega) (by omega) (by omega)
      rw [e]
      obtain ⟨n3, z3, c3, d3, d4, e⟩ := rests_neg (p := p) (i := w) (n := n2) (u := 0) (v := 0 + 1) (z := z2) (h := h) c1 q1.1 q1.2 q2.1 q2.2 (by omega) (by omega) (by omega) (by omega) (by omega)
      rw [e, q167_33 (hz7 := c3), if_pos (by omega), q167_24 (hz6 := rfl) (hz7 := c3), wI_ok (by omega) (by omega), if_neg (by omega)]
      obtain ⟨n4, z4, c4, d5, d6, e⟩ := rests_neg (p := p) (i := w) (n := n3) (u := 0 + 1) (v := 0) (z := z3) (h := h) c3 q1.1 q1.2 q2.1 q2.2 (by omega) (by omega) (by omega) (by omega) (by omega)
      rw [e]
      obtain ⟨n5, z5, c5, d7, d8, e⟩ := rests_neg (p := p) (i := w) (n := n4) (u := 0 + 1) (v := 0 + 1) (z := z4) (h := h) c4 q1.1 q1.2 q2.1 q2.2 (by omega) (by omega) (by omega) (by omega) (by omega)
      rw [e, q167_33 (hz7 := c5), if_pos (by omega), q167_24 (hz6 := rfl) (hz7 := c5), wI_ok (by omega) (by omega), if_pos (by omega), if_pos (by omega)]
      exact Bo_ret rfl
  · repeat' (first | (apply Bo_if <;> intro _) | (apply Bo_if2 <;> intro _))
    all_goals first | (exfalso; omega) | exact Bo_ret rfl
theorem c_face {b : Int} {h : MH} (i : Inv0 b h) (x y : Int) (hy : y = 0 ∨ y = 1) : Pr b b 156 289 [vR 0, .inl x, .inl y] [vR 97, .inl x, .inl y] h := by
  obtain ⟨l1, l2, l3, l4, l5, l6, l7⟩ := lg_n i
  obtain ⟨-, -, -, -, -, ⟨⟨s1, s2, s3⟩, ⟨t1, t2, t3⟩, t5, t4⟩, -⟩ := (Inv0_iff b h).mp i
  by_cases q : (0 ≤ x ∧ x < h 2 3) ∧ h 10 3 < 12
  · obtain ⟨q1, q2⟩ := q
    refine ⟨h 10 3 + 1, up (up (up h 48 (h 10 3).toNat x) 49 (h 10 3).toNat y) 10 3 (h 10 3 + 1), up (up (up (up (up (up (up h 48 (h 10 3).toNat x) 49 (h 10 3).toNat y) 10 3 (h 10 3 + 1)) 97 0 0) 117 (h 10 3).toNat x) 118 (h 10 3).toNat y) 97 49 (h 10 3 + 1), ?_, ?_, ?_, ?_⟩
    · rw [q156_0]
      simp (disch := omega) only [e_isTold, e_hasFort, e_hasCarrier, e_isWay, e_isPowder, e_isNews, m_isIn, m_isFort, m_isCarrier, mix_c, mix_m, cI_some, cV_some, bi_0, bi_ne, bi_1, Classical.not_not, if_pos, if_neg, wI_ok, e_keepM, m_rememberM, up_mixc, up_mixm, keepC_ne, remM_ne, ↓reduceIte, not_true_eq_false, up_s, up_a, up_i, ne_eq, Nat.reduceEqDiff, not_false_eq_true, q157_0, q158_0]
    · rw [q289_0]
      simp (disch := omega) only [e_isTold, e_hasFort, e_hasCarrier, e_isWay, e_isPowder, e_isNews, m_isIn, m_isFort, m_isCarrier, mix_c, mix_m, cI_some, cV_some, bi_0, bi_ne, bi_1, Classical.not_not, if_pos, if_neg, wI_ok, e_keepM, m_rememberM, up_mixc, up_mixm, keepC_ne, remM_ne, ↓reduceIte, not_true_eq_false, up_s, up_a, up_i, ne_eq, Nat.reduceEqDiff, not_false_eq_true, l1, t1]
    · refine Inv_Gue i (fun a j r n => ?_) ⟨⟨?_, ?_⟩, ⟨?_, ?_⟩, ?_, ?_⟩
      · by_cases z : a = 97
        · subst z
          rw [up_i (by omega), up_a (by omega), up_a (by omega)]
          by_cases z2 : j = 0
          · subst z2; exact absurd r Bool.false_ne_true
          · rw [up_i z2, up_a (by omega), up_a (by omega), up_a (by omega)]
        · rw [up_a z, up_a (by omega), up_a (by omega), up_a z]
          by_cases z3 : a = 10
          · subst z3; rw [up_i (by omega), up_a (by omega), up_a (by omega)]
          · rw [up_a z3, up_a (by omega), up_a (by omega)]
      · simp only [up_s, up_a, up_i, ne_eq, Nat.reduceEqDiff, not_false_eq_true]; exact s1
      · simp only [up_s, up_a, up_i, ne_eq, Nat.reduceEqDiff, not_false_eq_true]; exact ⟨s2, s3⟩
      · simp only [up_s, up_a, up_i, ne_eq, Nat.reduceEqDiff, not_false_eq_true]
      · simp only [up_s, up_a, up_i, ne_eq, Nat.reduceEqDiff, not_false_eq_true]; omega
      · intro k hk
        simp only [up_s, up_a, up_i, ne_eq, Nat.reduceEqDiff, not_false_eq_true] at hk ⊢
        exact t5 k hk
      · intro k hk
        simp only [up_s, up_a, up_i, ne_eq, Nat.reduceEqDiff, not_false_eq_true] at hk ⊢
        by_cases z : k = (h 10 3).toNat
        · subst z
          simp only [up_s]
          exact ⟨trivial, trivial, q1, hy⟩
        · simp only [up_i z]
          simp only [up_s, up_a, up_i, ne_eq, Nat.reduceEqDiff, not_false_eq_true]
          exact t4 k (by omega)
    · refine resL_up2 rfl (resL_up2 rfl (resL_up2 rfl (resL_up2 rfl (resL_up2 rfl (resL_up2 rfl (resL_up2 rfl rfl))))))
  · apply Pr_ro i
    rw [q156_0, q289_0]
    simp (disch := omega) only [e_isTold, e_hasFort, e_hasCarrier, e_isWay, e_isPowder, e_isNews, m_isIn, m_isFort, m_isCarrier, mix_c, mix_m, cI_some, cV_some, bi_0, bi_ne, bi_1, Classical.not_not, if_pos, if_neg, wI_ok, e_keepM, m_rememberM, up_mixc, up_mixm, keepC_ne, remM_ne, ↓reduceIte, not_true_eq_false, up_s, up_a, up_i, ne_eq, Nat.reduceEqDiff, not_false_eq_true, l1, t1, q157_0]
    repeat' (first | (apply Bo_if <;> intro _) | (apply Bo_if2 <;> intro _))
    all_goals first | (exfalso; omega) | exact Bo_ret rfl
theorem e_isShot (d : Nat) (x y z w : Int) (h : MH) : Run (d + 1) 122 0 [vR 0, .inl x, .inl y, .inl z, .inl w] [] h = some (some (.inl (bi ((0 ≤ x ∧ x < h 2 4) ∧ (0 ≤ y ∧ y < h 2 3) ∧ (1 ≤ z ∧ z ≤ 20) ∧ (w = 0 ∨ w = 1)))), h) := by
  rw [q122_0]
  simp only [e_hasCarrier, e_hasFort, e_isPowder, e_isWay, cI_some, bi_0, bi_ne, bi_1, Classical.not_not]
  by_cases q1 : 0 ≤ x ∧ x < h 2 4 <;> by_cases q2 : 0 ≤ y ∧ y < h 2 3 <;> by_cases q3 : 1 ≤ z ∧ z ≤ 20 <;> by_cases q4 : w = 0 ∨ w = 1 <;> simp [q1, q2, q3, q4, bi]
theorem m_isShot (d : Nat) (x y z w : Int) (h : MH) : Run (d + 1) 262 0 [vR 97, .inl x, .inl y, .inl z, .inl w] [] h = some (some (.inl (bi ((0 ≤ x ∧ x < h 97 27) ∧ (0 ≤ y ∧ y < h 97 26) ∧ (1 ≤ z ∧ z ≤ 20) ∧ (w = 0 ∨ w = 1)))), h) := by
  rw [q262_0]
  simp only [m_isCarrier, m_isFort, m_isIn, cI_some, bi_0, bi_ne, bi_1, Classical.not_not]
  have e : (0 ≤ w ∧ w ≤ 1) = (w = 0 ∨ w = 1) := by apply propext; omega
  simp only [e]
  by_cases q1 : 0 ≤ x ∧ x < h 97 27 <;> by_cases q2 : 0 ≤ y ∧ y < h 97 26 <;> by_cases q3 : 1 ≤ z ∧ z ≤ 20 <;> by_cases q4 : w = 0 ∨ w = 1 <;> simp [q1, q2, q3, q4, bi]
/-- five numbers in a row -/
def up5 (h : MH) (a j : Nat) (x y z w v : Int) : MH := up (up (up (up (up h a j x) a (j + 1) y) a (j + 2) z) a (j + 3) w) a (j + 4) v
theorem up5_a {h : MH} {a b j i : Nat} {x y z w v : Int} (e : b ≠ a) : up5 h a j x y z w v b i = h b i := by
  unfold up5
  rw [up_a e, up_a e, up_a e, up_a e, up_a e]
theorem up5_i {h : MH} {a j i : Nat} {x y z w v : Int} (e : i < j ∨ j + 5 ≤ i) : up5 h a j x y z w v a i = h a i := by
  unfold up5
  rw [up_i (by omega), up_i (by omega), up_i (by omega), up_i (by omega), up_i (by omega)]
theorem up5_0 (h : MH) (a j : Nat) (x y z w v : Int) : up5 h a j x y z w v a j = x := by
  unfold up5
  rw [up_i (by omega), up_i (by omega), up_i (by omega), up_i (by omega), up_s]
theorem up5_1 (h : MH) (a j : Nat) (x y z w v : Int) : up5 h a j x y z w v a (j + 1) = y := by
  unfold up5
  rw [up_i (by omega), up_i (by omega), up_i (by omega), up_s]
theorem up5_2 (h : MH) (a j : Nat) (x y z w v : Int) : up5 h a j x y z w v a (j + 2) = z := by
  unfold up5
  rw [up_i (by omega), up_i (by omega), up_s]
theorem up5_3 (h : MH) (a j : Nat) (x y z w v : Int) : up5 h a j x y z w v a (j + 3) = w := by
  unfold up5
  rw [up_i (by omega), up_s]
theorem up5_4 (h : MH) (a j : Nat) (x y z w v : Int) : up5 h a j x y z w v a (j + 4) = v := by
  unfold up5
  rw [up_s]
theorem resL_e2 {h h2 g : MH} (q : resL h = resL g) (e : ∀ a j, relL a j = true → h2 a j = h a j) : resL h2 = resL g := by rw [resL_e e, q]
theorem e_addSight (d : Nat) (x y z w v : Int) (h : MH) (h0 : 0 ≤ h 10 2) (h1 : h 10 2 < 10) : Run d 148 0 [vR 10, .inl x, .inl y, .inl z, .inl w, .inl v, vU] [] h = some (none, up (up5 h 46 (5 * (h 10 2).toNat) x y z w v) 10 2 (h 10 2 + 1)) := by
  have e0 : wI (h 10 2 * 5) = 5 * h 10 2 := by rw [wI_ok (by omega) (by omega)]; omega
  rw [q148_0]
  simp (disch := omega) only [e0, wI_ok, if_pos, up_s, up_a, up_i, ne_eq, Nat.reduceEqDiff, not_false_eq_true]
  unfold up5
  rw [show (5 * h 10 2).toNat = 5 * (h 10 2).toNat by omega, show (5 * h 10 2 + 1).toNat = 5 * (h 10 2).toNat + 1 by omega, show (5 * h 10 2 + 2).toNat = 5 * (h 10 2).toNat + 2 by omega, show (5 * h 10 2 + 3).toNat = 5 * (h 10 2).toNat + 3 by omega, show (5 * h 10 2 + 4).toNat = 5 * (h 10 2).toNat + 4 by omega]
theorem c_seen {b : Int} {h : MH} (i : Inv0 b h) (x y z w v : Int) : Pr b b 146 277 [vR 0, .inl x, .inl y, .inl z, .inl w, .inl v] [vR 97, .inl x, .inl y, .inl z, .inl w, .inl v, vU] h := by
  obtain ⟨l1, l2, l3, l4, l5, l6, l7⟩ := lg_n i
  obtain ⟨-, -, -, -, -, ⟨⟨s1, s2, s3⟩, ⟨t1, t2, t3⟩, t5, t4⟩, -⟩ := (Inv0_iff b h).mp i
  by_cases q : ((0 ≤ x ∧ x < h 2 4) ∧ (0 ≤ y ∧ y < h 2 3) ∧ (1 ≤ z ∧ z ≤ 20) ∧ (w = 0 ∨ w = 1)) ∧ (-60 ≤ v ∧ v ≤ 100) ∧ h 10 2 < 10
  · obtain ⟨q0, q3, q4⟩ := q
    refine ⟨h 10 2 + 1, up (up5 h 46 (5 * (h 10 2).toNat) x y z w v) 10 2 (h 10 2 + 1), up (up5 (up (up (up5 h 46 (5 * (h 10 2).toNat) x y z w v) 10 2 (h 10 2 + 1)) 97 0 0) 115 (5 * (h 10 2).toNat) x y z w v) 97 46 (h 10 2 + 1), ?_, ?_, ?_, ?_⟩
    · rw [q146_0, e_isShot, cI_some, bi_t q0, if_neg (by omega), if_neg (by omega), if_neg (by omega), q147_0, if_neg (by omega), cI_some, if_pos (by omega), e_addSight _ _ _ _ _ _ _ s2 q4, cV_some, up_s]
    · have u1 : up (up (up5 h 46 (5 * (h 10 2).toNat) x y z w v) 10 2 (h 10 2 + 1)) 97 0 0 97 27 = h 2 4 := by rw [up_i (by omega), up_a (by omega), up5_a (by omega), l2]
      have u2 : up (up (up5 h 46 (5 * (h 10 2).toNat) x y z w v) 10 2 (h 10 2 + 1)) 97 0 0 97 26 = h 2 3 := by rw [up_i (by omega), up_a (by omega), up5_a (by omega), l1]
      have u3 : up (up (up5 h 46 (5 * (h 10 2).toNat) x y z w v) 10 2 (h 10 2 + 1)) 97 0 0 97 46 = h 10 2 := by rw [up_i (by omega), up_a (by omega), up5_a (by omega), s1]
      generalize hg : up (up (up5 h 46 (5 * (h 10 2).toNat) x y z w v) 10 2 (h 10 2 + 1)) 97 0 0 = g at u1 u2 u3
      rw [q277_0, hg, m_isShot, cI_some, u1, u2, bi_t q0, if_neg (by omega), m_isIn, cI_some, bi_t q3, if_neg (by omega)]
      simp (disch := omega) only [up_s, up_a, up_i, ne_eq, Nat.reduceEqDiff, not_false_eq_true, u3, wI_ok, if_pos]
      unfold up5
      rw [show (5 * h 10 2).toNat = 5 * (h 10 2).toNat by omega, show (5 * h 10 2 + 1).toNat = 5 * (h 10 2).toNat + 1 by omega, show (5 * h 10 2 + 2).toNat = 5 * (h 10 2).toNat + 2 by omega, show (5 * h 10 2 + 3).toNat = 5 * (h 10 2).toNat + 3 by omega, show (5 * h 10 2 + 4).toNat = 5 * (h 10 2).toNat + 4 by omega]
    · refine Inv_Gue i (fun a j r n => ?_) ⟨⟨?_, ?_⟩, ⟨?_, ?_⟩, ?_, ?_⟩
      · by_cases z : a = 97
        · subst z
          rw [up_i (by omega), up5_a (by omega)]
          by_cases z2 : j = 0
          · subst z2; exact absurd r Bool.false_ne_true
          · rw [up_i z2, up_a (by omega), up5_a (by omega)]
        · rw [up_a z, up5_a (by omega), up_a z]
          by_cases z3 : a = 10
          · subst z3; rw [up_i (by omega), up5_a (by omega)]
          · rw [up_a z3, up5_a (by omega)]
      · rw [up_s, up_a (by omega), up5_a (by omega), up_a (by omega), up_s]
      · rw [up_a (by omega), up5_a (by omega), up_a (by omega), up_s]; omega
      · rw [up_i (by omega), up5_a (by omega), up_i (by omega), up_a (by omega), up5_a (by omega), up_a (by omega), up5_a (by omega), up_a (by omega), up_i (by omega), up5_a (by omega)]; exact t1
      · rw [up_a (by omega), up5_a (by omega), up_a (by omega), up_i (by omega), up5_a (by omega)]; exact ⟨t2, t3⟩
      · intro k hk
        have e1 : ∀ k, up (up5 (up (up (up5 h 46 (5 * (h 10 2).toNat) x y z w v) 10 2 (h 10 2 + 1)) 97 0 0) 115 (5 * (h 10 2).toNat) x y z w v) 97 46 (h 10 2 + 1) 46 k = up5 h 46 (5 * (h 10 2).toNat) x y z w v 46 k := by
          intro k
          rw [up_a (by omega), up5_a (by omega), up_a (by omega), up_a (by omega)]
        have e2 : ∀ k, up (up5 (up (up (up5 h 46 (5 * (h 10 2).toNat) x y z w v) 10 2 (h 10 2 + 1)) 97 0 0) 115 (5 * (h 10 2).toNat) x y z w v) 97 46 (h 10 2 + 1) 115 k = up5 (up (up (up5 h 46 (5 * (h 10 2).toNat) x y z w v) 10 2 (h 10 2 + 1)) 97 0 0) 115 (5 * (h 10 2).toNat) x y z w v 115 k := by
          intro k
          rw [up_a (by omega)]
        have e3 : up (up5 (up (up (up5 h 46 (5 * (h 10 2).toNat) x y z w v) 10 2 (h 10 2 + 1)) 97 0 0) 115 (5 * (h 10 2).toNat) x y z w v) 97 46 (h 10 2 + 1) 2 4 = h 2 4 := by
          rw [up_a (by omega), up5_a (by omega), up_a (by omega), up_a (by omega), up5_a (by omega)]
        have e4 : up (up5 (up (up (up5 h 46 (5 * (h 10 2).toNat) x y z w v) 10 2 (h 10 2 + 1)) 97 0 0) 115 (5 * (h 10 2).toNat) x y z w v) 97 46 (h 10 2 + 1) 2 3 = h 2 3 := by
          rw [up_a (by omega), up5_a (by omega), up_a (by omega), up_a (by omega), up5_a (by omega)]
        rw [up_a (by omega), up5_a (by omega), up_a (by omega), up_s] at hk
        simp only [e1, e2, e3, e4]
        by_cases z0 : (k : Int) = h 10 2
        · have z1 : 5 * (h 10 2).toNat = 5 * k := by omega
          rw [z1, up5_0, up5_1, up5_2, up5_3, up5_4]
          refine ⟨fun u hu => ?_, q0.1, q0.2.1, q0.2.2.1, q0.2.2.2, q3⟩
          rcases (show u = 0 ∨ u = 1 ∨ u = 2 ∨ u = 3 ∨ u = 4 by omega) with rfl | rfl | rfl | rfl | rfl
          · rw [Nat.add_zero, up5_0, up5_0]
          · rw [up5_1, up5_1]
          · rw [up5_2, up5_2]
          · rw [up5_3, up5_3]
          · rw [up5_4, up5_4]
        · have p := t5 k (by omega)
          rw [up5_i (by omega), up5_i (by omega), up5_i (by omega), up5_i (by omega), up5_i (by omega)]
          refine ⟨fun u hu => ?_, p.2⟩
          rw [up5_i (by omega), up5_i (by omega), up_a (by omega), up_a (by omega), up5_a (by omega)]
          exact p.1 u hu
      · intro k hk
        have e1 : ∀ a k, a ≠ 97 → a ≠ 115 → a ≠ 10 → a ≠ 46 → up (up5 (up (up (up5 h 46 (5 * (h 10 2).toNat) x y z w v) 10 2 (h 10 2 + 1)) 97 0 0) 115 (5 * (h 10 2).toNat) x y z w v) 97 46 (h 10 2 + 1) a k = h a k := by
          intro a k h1 h2 h3 h4
          rw [up_a h1, up5_a h2, up_a h1, up_a h3, up5_a h4]
        rw [up_a (by omega), up5_a (by omega), up_a (by omega), up_i (by omega), up5_a (by omega)] at hk
        rw [e1 _ _ (by omega) (by omega) (by omega) (by omega), e1 _ _ (by omega) (by omega) (by omega) (by omega), e1 _ _ (by omega) (by omega) (by omega) (by omega), e1 _ _ (by omega) (by omega) (by omega) (by omega), e1 _ _ (by omega) (by omega) (by omega) (by omega)]
        exact t4 k hk
    · apply resL_e
      intro a j r
      have g1 : a ≠ 115 := fun z => by subst z; exact Bool.false_ne_true r
      have g2 : a ≠ 46 := fun z => by subst z; exact Bool.false_ne_true r
      have g3 : a ≠ 10 := fun z => by subst z; exact Bool.false_ne_true r
      by_cases z : a = 97
      · subst z
        have z1 : j ≠ 46 := fun z => by subst z; exact Bool.false_ne_true r
        have z2 : j ≠ 0 := fun z => by subst z; exact Bool.false_ne_true r
        rw [up_i z1, up5_a g1, up_i z2, up_a g3, up5_a g2]
      · rw [up_a z, up5_a g1, up_a z, up_a g3, up5_a g2]
  · apply Pr_ro i
    rw [q146_0, q277_0, e_isShot, m_isShot]
    simp only [cI_some, m_isIn, bi_0, bi_ne, bi_1, Classical.not_not, up_s, up_a, up_i, ne_eq, Nat.reduceEqDiff, not_false_eq_true, l1, l2, s1, q147_0]
    simp only [cI_ite, cI_some]
    repeat' (first | (apply Bo_if <;> intro _) | (apply Bo_if2 <;> intro _))
    all_goals first | (exfalso; omega) | contradiction | (simp only [not_true_eq_false] at *; done) | exact Bo_ret rfl
