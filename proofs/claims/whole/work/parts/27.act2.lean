/-! the invariant's parts by the places that they hang on -/
theorem iTape_c {g g2 : MH} (e1 : g2 1 1 = g 1 1) (e2 : g2 97 6 = g 97 6) (e3 : ∀ i, g2 98 i = g 98 i) (e4 : ∀ i, g2 15 i = g 15 i) (q : iTape g) : iTape g2 := by
  unfold iTape at q ⊢
  simp only [e1, e2, e3, e4]
  exact q
theorem iDamp_c {g g2 : MH} (e1 : g2 0 14 = g 0 14) (e2 : g2 97 35 = g 97 35) (q : iDamp g) : iDamp g2 := by
  unfold iDamp at q ⊢
  simp only [e1, e2]
  exact q
def lgE (g g2 : MH) : Prop := g2 2 3 = g 2 3 ∧ g2 2 4 = g 2 4
theorem iLg_c {g g2 : MH} (e : lgE g g2) (e1 : g2 97 26 = g 97 26) (e2 : g2 97 27 = g 97 27) (e3 : g2 16 = g 16) (e4 : g2 17 = g 17) (e5 : g2 18 = g 18) (e6 : g2 102 = g 102) (e7 : g2 104 = g 104) (e8 : g2 106 = g 106) (q : iLg g) : iLg g2 := by
  unfold iLg at q ⊢
  simp only [e.1, e.2, e1, e2, e3, e4, e5, e6, e7, e8]
  exact q
theorem iImg_c {b b2 : Int} {g g2 : MH} (hb : b ≤ b2) (hf : g 2 3 ≤ 8) (hk : g 2 4 ≤ 5) (e : lgE g g2) (e1 : g2 97 51 = g 97 51) (e2 : g2 0 13 = g 0 13) (e3 : g2 95 = g 95) (e4 : g2 96 = g 96) (e5 : g2 119 = g 119) (q : iImg b g) : iImg b2 g2 := by
  unfold iImg at q ⊢
  simp only [e.1, e.2, e1, e2, e3, e4, e5]
  obtain ⟨q1, q2, q3⟩ := q
  refine ⟨q1, q2, fun z => ?_⟩
  obtain ⟨q4, L, M, q5, q6, q7⟩ := q3 z
  exact ⟨q4, L, M, q5, stOK_congr hb (fun _ _ => rfl) hf hk q6, q7⟩
theorem iGue_c {g g2 : MH} (e : lgE g g2) (e1 : g2 97 46 = g 97 46) (e2 : g2 97 49 = g 97 49) (e3 : g2 10 2 = g 10 2) (e4 : g2 10 3 = g 10 3) (e5 : g2 115 = g 115) (e6 : g2 46 = g 46) (e7 : g2 117 = g 117) (e8 : g2 118 = g 118) (e9 : g2 48 = g 48) (e10 : g2 49 = g 49) (q : iGue g) : iGue g2 := by
  unfold iGue at q ⊢
  simp only [e.1, e.2, e1, e2, e3, e4, e5, e6, e7, e8, e9, e10]
  exact q
theorem iPl_c {g g2 : MH} (e1 : g2 97 30 = g 97 30) (e2 : g2 7 1 = g 7 1) (e3 : g2 109 = g 109) (e4 : g2 31 = g 31) (e5 : g2 108 = g 108) (e6 : ∀ k, k < 4 → g2 (33 + k) = g (33 + k)) (q : iPl g) : iPl g2 := by
  unfold iPl at q ⊢
  simp only [e1, e2, e3, e4, e5]
  refine ⟨q.1, fun k hk => ?_⟩
  rw [e6 k (by omega)]
  exact q.2 k hk
theorem iLw_c {g g2 : MH} (e1 : g2 97 7 = g 97 7) (e2 : g2 6 1 = g 6 1) (e3 : g2 97 34 = g 97 34) (e4 : g2 6 2 = g 6 2) (q : iLw g) : iLw g2 := by
  unfold iLw at q ⊢
  simp only [e1, e2, e3, e4]
  exact q
theorem relL_B {a j : Nat} (h : relL a j = true) : relB a j = true := by
  unfold relL at h
  split at h <;> first | exact absurd h (by decide) | rfl | (revert h; intro h; exact h) | skip
  all_goals (simp only [beq_iff_eq, Bool.or_eq_true] at h; unfold relB; simp [h])
theorem relL_lo {a j : Nat} (h : relL a j = true) : a ≤ 40 ∨ 97 ≤ a := by
  unfold relL at h
  split at h <;> first | omega | exact absurd h Bool.false_ne_true
/-- all but the states -/
theorem Inv_but {b b2 : Int} {g g2 : MH} (i : Inv0 b g) (hb : b ≤ b2) (e : ∀ a j, relB a j = true → a ≠ 91 → a ≠ 92 → a ≠ 110 → a ≠ 112 → a ≠ 11 → ¬ (51 ≤ a ∧ a < 51 + 40) → ¬ (a = 97 ∧ j = 37) → g2 a j = g a j) (n : iNow b2 g2) : Inv0 b2 g2 := by
  obtain ⟨t1, t2, t3, t4, t5, t6, t7, t8⟩ := (Inv0_iff b g).mp i
  obtain ⟨l1, l2, l3, l4, l5, l6, l7⟩ := lg_n i
  have e1 : ∀ a, (∀ j, relB a j = true) → a ≠ 91 → a ≠ 92 → a ≠ 110 → a ≠ 112 → a ≠ 11 → ¬ (51 ≤ a ∧ a < 51 + 40) → a ≠ 97 → g2 a = g a := fun a h0 h1 h2 h3 h4 h5 h6 h7 => funext fun j => e a j (h0 j) h1 h2 h3 h4 h5 h6 (fun z => h7 z.1)
  have el : lgE g g2 := ⟨e _ _ rfl (by omega) (by omega) (by omega) (by omega) (by omega) (by omega) (by omega), e _ _ rfl (by omega) (by omega) (by omega) (by omega) (by omega) (by omega) (by omega)⟩
  refine (Inv0_iff b2 g2).mpr ⟨iTape_c ?_ ?_ ?_ ?_ t1, iDamp_c ?_ ?_ t2, iLg_c el ?_ ?_ ?_ ?_ ?_ ?_ ?_ ?_ t3, n, iImg_c hb l4 l6 el ?_ ?_ ?_ ?_ ?_ t5, iGue_c el ?_ ?_ ?_ ?_ ?_ ?_ ?_ ?_ ?_ ?_ t6, iPl_c ?_ ?_ ?_ ?_ ?_ ?_ t7, iLw_c ?_ ?_ ?_ ?_ t8⟩
  all_goals first | (exact e _ _ rfl (by omega) (by omega) (by omega) (by omega) (by omega) (by omega) (by omega)) | (exact e1 _ (fun _ => rfl) (by omega) (by omega) (by omega) (by omega) (by omega) (by omega) (by omega)) | (intro j; exact e _ _ rfl (by omega) (by omega) (by omega) (by omega) (by omega) (by omega) (by omega)) | skip
  intro k hk
  exact e1 _ (fun j => rel_p j k hk) (by omega) (by omega) (by omega) (by omega) (by omega) (by omega) (by omega)
theorem resL_e {g g2 : MH} (e : ∀ a j, relL a j = true → g2 a j = g a j) : resL g2 = resL g := by
  funext a j
  unfold resL
  by_cases q : relL a j = true
  · rw [if_pos q, if_pos q, e a j q]
  · rw [if_neg q, if_neg q]
/-- an act -/
theorem Inv_act {b b2 : Int} {hc hm hc2 hm2 : MH} (i : Inv0 b (mix hc hm)) (hb : b ≤ b2) (ec : ∀ a j, relB a j = true → a < 97 → a ≠ 91 → a ≠ 92 → hc2 a j = keepC hc a j) (em : ∀ a j, relB a j = true → ¬ a < 97 → a ≠ 110 → hm2 a j = remM hm a j)
    (st : stR (hc2 91) (hm2 110)) (ok : stOK (hc 2 3) (hc 2 4) b2 (hc2 91))
    (lg : (hc2 91 5 = hc 91 5 ∧ hc2 92 = hc 92 ∧ ∀ j, 37 ≤ j → j < 277 → hm2 110 j = hm 110 j) ∨ (hc2 91 5 = hc 91 5 + 1 ∧ shotR (hc 91 5) (hc 92) (hc2 92) (hm 110) (hm2 110))) : Inv0 b2 (mix hc2 hm2) ∧ resL (mix hc2 hm2) = resL (mix hc hm) := by
  have n := ((Inv0_iff _ _).mp i).2.2.2.1
  obtain ⟨l1, l2, l3, l4, l5, l6, l7⟩ := lg_n i
  obtain ⟨L, M, -, ⟨c1, c2, c3⟩, -⟩ := id n
  have ac : hm 97 37 = hc 11 0 := c3
  have c1' : 0 ≤ hc 11 0 ∧ hc 11 0 ≤ 40 := c1
  have c2' : 0 ≤ hc 11 2 ∧ hc 11 2 < 40 := c2
  -- what keepC and remM leave
  have kc : ∀ a j, a ≠ 11 → ¬ (51 ≤ a ∧ a < 51 + 40) → keepC hc a j = hc a j := by
    intro a j h1 h2
    unfold keepC
    rw [up_a h1, up_a h1, cpy_ne (by omega)]
  have rm : ∀ a j, a ≠ 112 → ¬ (a = 97 ∧ j = 37) → remM hm a j = hm a j := by
    intro a j h1 h2
    unfold remM
    have z : ∀ (g : MH) v, up g 97 37 v a j = g a j := by
      intro g v
      by_cases q : a = 97
      · subst q; exact up_i (fun z => h2 ⟨rfl, z⟩)
      · exact up_a q
    split
    · rw [z, cpy_ne h1, z, cpy_ne h1]
    · rw [z, cpy_ne h1]
  have eq : ∀ a j, relB a j = true → a ≠ 91 → a ≠ 92 → a ≠ 110 → a ≠ 112 → a ≠ 11 → ¬ (51 ≤ a ∧ a < 51 + 40) → ¬ (a = 97 ∧ j = 37) → mix hc2 hm2 a j = mix hc hm a j := by
    intro a j r h1 h2 h3 h4 h5 h6 h7
    by_cases q : a < 97
    · rw [mix_c q, mix_c q, ec a j r q h1 h2, kc a j h5 h6]
    · rw [mix_m q, mix_m q, em a j r q h3, rm a j h4 h7]
  refine ⟨Inv_but i hb eq ?_, resL_e fun a j r => ?_⟩
  · have ect : hc2 11 0 = mn 40 (hc 11 0 + 1) := by
      rw [ec _ _ rfl (by omega) (by omega) (by omega)]; rfl
    have eact : hm2 97 37 = mn 40 (hc 11 0 + 1) := by
      rw [em _ _ rfl (by omega) (by omega), ← ac]
      unfold remM mn
      split
      · rw [up_s]; split <;> omega
      · rw [up_s]; split <;> omega
    refine iNow_act n hb l4 l6 (eq _ _ rfl (by omega) (by omega) (by omega) (by omega) (by omega) (by omega) (by omega)) (eq _ _ rfl (by omega) (by omega) (by omega) (by omega) (by omega) (by omega) (by omega)) ?_ ect ?_ ?_ ?_ ?_ st ok lg
    · show hc2 11 2 = _
      rw [ec _ _ rfl (by omega) (by omega) (by omega)]; rfl
    · intro j hj
      rw [mix_c (by show _ < 97; have : (mix hc hm 11 2) = hc 11 2 := rfl; omega)]
      rw [ec _ _ (rel_h j _ (by have : (mix hc hm 11 2) = hc 11 2 := rfl; omega)) (by have : (mix hc hm 11 2) = hc 11 2 := rfl; omega) (by have : (mix hc hm 11 2) = hc 11 2 := rfl; omega) (by have : (mix hc hm 11 2) = hc 11 2 := rfl; omega)]
      unfold keepC
      rw [up_a (by omega), up_a (by omega)]
      show cpy hc (hc 91) (51 + (hc 11 2).toNat) 0 0 37 (51 + (hc 11 2).toNat) j = _
      rw [cpy_at]
      dsimp only
      rw [if_pos (by omega), Nat.zero_add, Nat.sub_zero]
      rfl
    · intro k hk hne
      have hne2 : k ≠ (hc 11 2).toNat := hne
      rw [mix_c (by omega), mix_c (by omega)]
      funext j
      rw [ec _ _ (rel_h j k hk) (by omega) (by omega) (by omega)]
      unfold keepC
      rw [up_a (by omega), up_a (by omega), cpy_ne (by omega)]
    · show hm2 97 37 = hc2 11 0
      rw [eact, ect]
    · intro i hi j hj
      have hi2 : (i : Int) < hc2 11 0 := hi
      rw [ect] at hi2
      unfold uRow
      show hm2 112 (277 * (hm2 97 37 - 1 - i).toNat + j) = if i = 0 then hm 110 j else hm 112 (277 * (hm 97 37 - 1 - (i - 1 : Nat)).toNat + j)
      rw [eact, em _ _ rfl (by omega) (by omega)]
      unfold remM
      by_cases q : hm 97 37 = 40
      · have q2 : mn 40 (hc 11 0 + 1) = 40 := by unfold mn; split <;> omega
        rw [if_pos q, q2, up_a (by omega), cpy_at]
        dsimp only
        rw [up_a (by omega), cpy_at, q]
        dsimp only
        by_cases q3 : i = 0
        · subst q3
          rw [if_pos (by omega), if_pos rfl]
          refine congrArg _ ?_
          omega
        · rw [if_neg (by omega), if_neg q3, if_pos (by omega)]
          refine congrArg _ ?_
          omega
      · have q2 : mn 40 (hc 11 0 + 1) = hc 11 0 + 1 := by unfold mn; split <;> omega
        rw [if_neg q, q2, up_a (by omega), cpy_at, ac]
        dsimp only
        by_cases q3 : i = 0
        · subst q3
          rw [if_pos (by omega), if_pos rfl]
          refine congrArg _ ?_
          omega
        · rw [if_neg (by omega), if_neg q3]
          refine congrArg _ ?_
          omega
  · have rb := relL_B r
    apply eq a j rb
    all_goals intro z
    all_goals first | (subst z; exact Bool.false_ne_true r) | skip
    · have := relL_lo r
      omega
    · obtain ⟨z1, z2⟩ := z
      subst z1; subst z2
      exact Bool.false_ne_true r
