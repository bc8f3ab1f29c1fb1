/-! wind; undo, image, back -/
theorem c_wind {b : Int} {h : MH} (i : Inv0 b h) (x y : Int) : Pr b b 95 241 [vR 0, .inl x, .inl y] [vR 97, .inl x, .inl y] h := by
  obtain ⟨l1, l2, l3, l4, l5, l6, l7⟩ := lg_n i
  have r := nowR i
  have o := nowOK i
  obtain ⟨hh1, hh2, hh3⟩ := hist_n i
  obtain ⟨-, -, s1, s2, s3, s4, s5, s6⟩ := nowR i
  by_cases q0 : 0 < h 2 3 ∧ (0 ≤ x ∧ x ≤ 9) ∧ (y = 0 ∨ y = 1) ∧ ¬ (h 91 1 = x ∧ h 91 2 = y)
  · obtain ⟨q1, q2, q3, q4⟩ := q0
    apply Pr_M
    refine ⟨1, up (up (keepC h) 91 1 x) 91 2 y, up (up (remM (up h 97 0 0)) 110 32 x) 110 33 y, fun g => ?_, fun g => ?_, ?_⟩
    · rw [q95_0]
      simp (disch := omega) only [e_isTold, e_hasFort, e_hasCarrier, e_isWay, e_isPowder, e_isNews, m_isIn, m_isFort, m_isCarrier, mix_c, mix_m, cI_some, cV_some, bi_0, bi_ne, bi_1, Classical.not_not, if_pos, if_neg, wI_ok, e_keepM, m_rememberM, up_mixc, up_mixm, keepC_ne, remM_ne, ↓reduceIte, not_true_eq_false, up_s, up_a, up_i, ne_eq, Nat.reduceEqDiff, not_false_eq_true, e_blows]
    · rw [q241_0]
      simp (disch := omega) only [e_isTold, e_hasFort, e_hasCarrier, e_isWay, e_isPowder, e_isNews, m_isIn, m_isFort, m_isCarrier, mix_c, mix_m, cI_some, cV_some, bi_0, bi_ne, bi_1, Classical.not_not, if_pos, if_neg, wI_ok, e_keepM, m_rememberM, up_mixc, up_mixm, keepC_ne, remM_ne, ↓reduceIte, not_true_eq_false, up_s, up_a, up_i, ne_eq, Nat.reduceEqDiff, not_false_eq_true, m_canBlow, l1, s2, s3, q243_0]
    · rw [← mix_self h] at i
      refine (fun z => ⟨z.1, z.2⟩) (Inv_actN i (fun a ha => by rw [up_ne ha, up_ne ha]) (fun a ha => by rw [up_ne ha, up_ne ha]) ?_ ?_ ?_ ?_)
      · rw [up_row, up_row, up_row, up_row, keepC_ne hh2.2 (by omega) (by omega), remM_ne (by omega) (by omega), up_ne (show 110 ≠ 97 by omega)]
        exact stR_x (stR_x r 1 x (by omega)) 2 y (by omega)
      · rw [up_row, up_row, keepC_ne hh2.2 (by omega) (by omega)]
        exact stOK_x (stOK_x o 1 x (by omega) l6 l4 (by omega) (by omega) (by omega) (by omega) (by omega)) 2 y (by omega) l6 l4 (by omega) (by omega) (by omega) (by omega) (by omega)
      · rw [up_i (by omega), up_i (by omega), keepC_ne hh2.2 (by omega) (by omega)]
      · intro j hj _
        rw [up_i (by omega), up_i (by omega), remM_ne (by omega) (by omega), up_ne (show 110 ≠ 97 by omega)]
  · apply Pr_ro i
    rw [q95_0, q241_0]
    simp (disch := omega) only [e_isTold, e_hasFort, e_hasCarrier, e_isWay, e_isPowder, e_isNews, m_isIn, m_isFort, m_isCarrier, mix_c, mix_m, cI_some, cV_some, bi_0, bi_ne, bi_1, Classical.not_not, if_pos, if_neg, wI_ok, e_keepM, m_rememberM, up_mixc, up_mixm, keepC_ne, remM_ne, ↓reduceIte, not_true_eq_false, up_s, up_a, up_i, ne_eq, Nat.reduceEqDiff, not_false_eq_true, l1, s2, s3, m_canBlow, e_blows]
    repeat' (first | (apply Bo_if <;> intro _) | (apply Bo_if2 <;> intro _))
    all_goals first | (exfalso; omega) | (apply Bo_ret; first | rfl | omega | (congr 1; omega))
theorem lgR_congr2 {L L2 : Nat → Nat → Int} {s s2 : Int} {v v2 : Nat → Int} (es : s2 = s) (eL : ∀ n : Nat, (n : Int) < s → ∀ w, w < 4 → L2 n w = L n w) (e : ∀ j : Nat, 37 ≤ j → (j : Int) < 37 + 4 * (if s ≤ 60 then s else 60) → v2 j = v j) (r : lgR L s v) : lgR L2 s2 v2 := by
  subst es
  intro n hn h60 w hw
  rw [eL n hn w hw, e _ (by omega) (by split <;> omega)]
  exact r n hn h60 w hw
theorem iNow_undo {b : Int} {h h2 : MH} (i : iNow b h) (hc : 0 < h 11 0) (hf : h 2 3 ≤ 8) (hk : h 2 4 ≤ 5)
    (el1 : h2 2 3 = h 2 3) (el2 : h2 2 4 = h 2 4) (et : h2 11 2 = (h 11 2 + 39) % 40) (ec : h2 11 0 = h 11 0 - 1)
    (er : ∀ k, k < 40 → h2 (51 + k) = h (51 + k)) (ea : h2 97 37 = h 97 37 - 1) (eu : h2 112 = h 112)
    (en : ∀ j, j < 37 → h2 91 j = hRow h 0 j) (es : h2 92 = h 92) (em : ∀ j, j < 277 → h2 110 j = uRow h 0 j) : iNow b h2 := by
  obtain ⟨L, M, ⟨r1, r2, r3, r4⟩, ⟨c1, c2, c3⟩, rows, hM⟩ := i
  obtain ⟨d1, d2, d3, d4, d5, d6, d7⟩ := rows 0 (by omega)
  have hp : 0 ≤ hRow h 0 5 := d2.1.2.2.2.2.2.1
  have e5 := en 5 (by omega)
  have rowS : ∀ i : Nat, i < 39 → hRow h2 i = hRow h (i + 1) := by
    intro i h39
    unfold hRow
    rw [et, show ((h 11 2 + 39) % 40 + 39 - (i : Nat)).toNat % 40 = (h 11 2 + 39 - (i + 1 : Nat)).toNat % 40 by omega]
    exact er _ (by omega)
  have uS : ∀ i : Nat, uRow h2 i = uRow h (i + 1) := by
    intro i
    unfold uRow
    funext j
    rw [eu, ea, show (h 97 37 - 1 - 1 - (i : Nat)).toNat = (h 97 37 - 1 - (i + 1 : Nat)).toNat by omega]
  refine ⟨L, M, ⟨stR_congr en (fun j hj => em j (by omega)) d1, by rw [el1, el2]; exact stOK_congr (Int.le_refl b) en hf hk d2, lgR_congr e5 hp (fun _ _ _ _ => rfl) (fun j _ hj => em j hj) d3, ?_⟩, ⟨by omega, by omega, by omega⟩, ?_, by omega⟩
  · obtain ⟨g1, g2⟩ := r4
    refine ⟨by omega, fun n hn hm w hw => ?_⟩
    rw [es]
    exact g2 n (by omega) hm w hw
  · intro i hi
    rw [rowS i (by omega), uS i, el1, el2]
    obtain ⟨f1, f2, f3, f4, f5, f6, f7⟩ := rows (i + 1) (by omega)
    have := f7 0 (by omega)
    refine ⟨f1, f2, f3, by omega, by omega, f6, fun j hj => ?_⟩
    rw [rowS j (by omega)]
    have := f7 (j + 1) (by omega)
    omega
theorem m_undo (d : Nat) (h : MH) (n : Int) (hn : h 97 37 = n) (h0 : 0 ≤ n) (h1 : n < 40) : Run d 251 26 [vR 97, .inl 0] [] h = some (some (.inl n), cpy h (h 112) 110 (277 * n.toNat) 0 277) := by
  have := copy_loop (L := fun x h => Run d 251 26 [vR 97, .inl x] [] h) (fin := fun h => some (some (.inl n), h)) (s := 112) (d := 110) (sp := 277 * n.toNat) (dp := 0) (n := 277) (P := fun h => h 97 37 = n) (fun h j v hp => hp)
    (fun h x hp hx => by
      rw [q251_26, if_pos hx, hp])
    (fun h x hp h0 hx => by
      rw [q251_26]
      simp (disch := omega) only [hp, wI_ok, if_neg, if_pos]
      rw [show (277 * n + x).toNat = 277 * n.toNat + x.toNat by omega, Nat.zero_add])
    (Or.inl (by omega)) h hn (by omega)
  exact this
theorem c_undo {b : Int} {h : MH} (i : Inv0 b h) : Pr b b 106 251 [vR 0] [vR 97, vU] h := by
  obtain ⟨l1, l2, l3, l4, l5, l6, l7⟩ := lg_n i
  obtain ⟨hh1, hh2, hh3⟩ := hist_n i
  by_cases q : h 11 0 = 0
  · apply Pr_no i (v := -1)
    · rw [q106_0, q107_0]
      simp (disch := omega) only [e_isTold, e_hasFort, e_hasCarrier, e_isWay, e_isPowder, e_isNews, m_isIn, m_isFort, m_isCarrier, mix_c, mix_m, cI_some, cV_some, bi_0, bi_ne, bi_1, Classical.not_not, if_pos, if_neg, wI_ok, e_keepM, m_rememberM, up_mixc, up_mixm, keepC_ne, remM_ne, ↓reduceIte, not_true_eq_false, up_s, up_a, up_i, ne_eq, Nat.reduceEqDiff, not_false_eq_true]
    · rw [q251_0]
      simp (disch := omega) only [up_s, up_a, up_i, ne_eq, Nat.reduceEqDiff, not_false_eq_true, if_neg]
  · have nw := ((Inv0_iff _ _).mp i).2.2.2.1
    have e1 : ((wI (wI (h 11 2 + 40) - 1)).tmod 40) = (h 11 2 + 39) % 40 := by
      rw [wI_ok (x := h 11 2 + 40) (by omega) (by omega), wI_ok (by omega) (by omega), Int.tmod_eq_emod_of_nonneg (by omega)]
      omega
    apply Pr_M
    refine ⟨h 11 0 - 1, cpy (up (up h 11 0 (h 11 0 - 1)) 11 2 ((h 11 2 + 39) % 40)) (h (51 + ((h 11 2 + 39) % 40).toNat)) 91 0 0 37, cpy (up (up h 97 0 0) 97 37 (h 11 0 - 1)) (h 112) 110 (277 * (h 11 0 - 1).toNat) 0 277, fun g => ?_, fun g => ?_, ?_⟩
    · rw [q106_0, q107_0]
      simp only [up_s, up_a, up_i, ne_eq, Nat.reduceEqDiff, not_false_eq_true, mix_c (show 11 < 97 by omega), e1]
      rw [if_pos q, if_pos (by omega), cI_some, if_neg (by omega), wI_ok (by omega) (by omega), up_ne (a := 11) (by omega), up_ne (a := 11) (by omega), cpy_ne (show 11 ≠ 91 by omega), up_mixc (by omega), up_mixc (by omega), cpy_mixc (by omega), mix_c (by omega), mix_c (by omega)]
      rfl
    · rw [q251_0, up_mixm (by omega), mix_m (by omega), up_i (by omega), hh3, if_pos q, wI_ok (by omega) (by omega), up_mixm (by omega), m_undo _ _ (h 11 0 - 1) (by rw [mix_m (by omega), up_s]) (by omega) (by omega), cpy_mixm (by omega), mix_m (by omega), up_ne (by omega), up_ne (by omega)]
    · refine ⟨Inv_but i (Int.le_refl b) ?_ (iNow_undo nw (by omega) l4 l6 ?_ ?_ ?_ ?_ ?_ ?_ ?_ ?_ ?_ ?_), ?_⟩
      · intro a j r h1 h2 h3 h4 h5 h6 h7
        by_cases z0 : a < 97
        · rw [mix_c z0, cpy_ne h1, up_a h5, up_a h5]
        · rw [mix_m z0, cpy_ne h3]
          by_cases z : a = 97
          · subst z
            rw [up_i (fun z => h7 ⟨rfl, z⟩)]
            by_cases z2 : j = 0
            · subst z2; exact absurd r Bool.false_ne_true
            · rw [up_i z2]
          · rw [up_a z, up_a z]
      · rw [mix_c (by omega), cpy_ne (by omega), up_a (by omega), up_a (by omega)]
      · rw [mix_c (by omega), cpy_ne (by omega), up_a (by omega), up_a (by omega)]
      · rw [mix_c (by omega), cpy_ne (by omega), up_s]
      · rw [mix_c (by omega), cpy_ne (by omega), up_i (by omega), up_s]
      · intro k hk
        rw [mix_c (by omega), cpy_ne (by omega), up_ne (by omega), up_ne (by omega)]
      · rw [mix_m (by omega), cpy_ne (by omega), up_s, hh3]
      · rw [mix_m (by omega), cpy_ne (by omega), up_ne (by omega), up_ne (by omega)]
      · intro j hj
        rw [mix_c (by omega), cpy_at]
        dsimp only
        rw [if_pos (by omega), Nat.zero_add, Nat.sub_zero]
        unfold hRow
        rw [show (h 11 2 + 39 - (0 : Nat)).toNat % 40 = ((h 11 2 + 39) % 40).toNat by omega]
      · rw [mix_c (by omega), cpy_ne (by omega), up_ne (by omega), up_ne (by omega)]
      · intro j hj
        rw [mix_m (by omega), cpy_at]
        dsimp only
        rw [if_pos (by omega), Nat.sub_zero]
        unfold uRow
        rw [hh3, show (h 11 0 - 1 - (0 : Nat)).toNat = (h 11 0 - 1).toNat by omega]
      · rw [mix_self]
        apply resL_e
        intro a j r
        have g1 : a ≠ 110 := fun z => by subst z; exact Bool.false_ne_true r
        have g2 : a ≠ 91 := fun z => by subst z; exact Bool.false_ne_true r
        have g3 : a ≠ 11 := fun z => by subst z; exact Bool.false_ne_true r
        by_cases z0 : a < 97
        · rw [mix_c z0, cpy_ne g2, up_a g3, up_a g3]
        · rw [mix_m z0, cpy_ne g1]
          by_cases z : a = 97
          · subst z
            have z1 : j ≠ 37 := fun z => by subst z; exact Bool.false_ne_true r
            have z2 : j ≠ 0 := fun z => by subst z; exact Bool.false_ne_true r
            rw [up_i z1, up_i z2]
          · rw [up_a z, up_a z]
