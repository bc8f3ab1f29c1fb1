/-! the invariant, but for one part -/
theorem iNow_c {b : Int} {g g2 : MH} (e : lgE g g2) (e1 : g2 91 = g 91) (e2 : g2 92 = g 92) (e3 : g2 110 = g 110) (e4 : g2 112 = g 112) (e5 : g2 11 0 = g 11 0) (e6 : g2 11 2 = g 11 2) (e7 : g2 97 37 = g 97 37) (e8 : ∀ k, k < 40 → g2 (51 + k) = g (51 + k)) (q : iNow b g) : iNow b g2 := by
  have r : ∀ i, hRow g2 i = hRow g i := by
    intro i
    unfold hRow
    rw [e6]
    exact e8 _ (Nat.mod_lt _ (by omega))
  have u : ∀ i, uRow g2 i = uRow g i := by
    intro i
    unfold uRow
    rw [e4, e7]
  unfold iNow at q ⊢
  simp only [r, u, e.1, e.2, e1, e2, e3, e5, e6, e7]
  exact q
theorem Inv_Tape {b : Int} {g g2 : MH} (i : Inv0 b g) (e : ∀ a j, relB a j = true → ¬ (a = 15 ∨ a = 98 ∨ (a = 1 ∧ j = 1) ∨ (a = 97 ∧ j = 6)) → g2 a j = g a j) (n : iTape g2) : Inv0 b g2 := by
  obtain ⟨t1, t2, t3, t4, t5, t6, t7, t8⟩ := (Inv0_iff b g).mp i
  obtain ⟨l1, l2, l3, l4, l5, l6, l7⟩ := lg_n i
  have e1 : ∀ a, (∀ j, relB a j = true) → (∀ j, ¬ (a = 15 ∨ a = 98 ∨ (a = 1 ∧ j = 1) ∨ (a = 97 ∧ j = 6))) → g2 a = g a := fun a h0 h1 => funext fun j => e a j (h0 j) (h1 j)
  have el : lgE g g2 := ⟨e _ _ rfl (by omega), e _ _ rfl (by omega)⟩
  refine (Inv0_iff b g2).mpr ⟨n, iDamp_c ?_ ?_ t2, iLg_c el ?_ ?_ ?_ ?_ ?_ ?_ ?_ ?_ t3, iNow_c el ?_ ?_ ?_ ?_ ?_ ?_ ?_ ?_ t4, iImg_c (Int.le_refl b) l4 l6 el ?_ ?_ ?_ ?_ ?_ t5, iGue_c el ?_ ?_ ?_ ?_ ?_ ?_ ?_ ?_ ?_ ?_ t6, iPl_c ?_ ?_ ?_ ?_ ?_ ?_ t7, iLw_c ?_ ?_ ?_ ?_ t8⟩
  all_goals first | (exact e _ _ rfl (by omega)) | (exact e1 _ (fun _ => rfl) (fun _ => by omega)) | (intro j; exact e _ _ rfl (by omega)) | skip
  · intro k hk
    exact e1 _ (fun j => rel_h j k hk) (fun _ => by omega)
  intro k hk
  exact e1 _ (fun j => rel_p j k hk) (fun _ => by omega)
theorem Inv_Damp {b : Int} {g g2 : MH} (i : Inv0 b g) (e : ∀ a j, relB a j = true → ¬ ((a = 0 ∧ j = 14) ∨ (a = 97 ∧ j = 35)) → g2 a j = g a j) (n : iDamp g2) : Inv0 b g2 := by
  obtain ⟨t1, t2, t3, t4, t5, t6, t7, t8⟩ := (Inv0_iff b g).mp i
  obtain ⟨l1, l2, l3, l4, l5, l6, l7⟩ := lg_n i
  have e1 : ∀ a, (∀ j, relB a j = true) → (∀ j, ¬ ((a = 0 ∧ j = 14) ∨ (a = 97 ∧ j = 35))) → g2 a = g a := fun a h0 h1 => funext fun j => e a j (h0 j) (h1 j)
  have el : lgE g g2 := ⟨e _ _ rfl (by omega), e _ _ rfl (by omega)⟩
  refine (Inv0_iff b g2).mpr ⟨iTape_c ?_ ?_ ?_ ?_ t1, n, iLg_c el ?_ ?_ ?_ ?_ ?_ ?_ ?_ ?_ t3, iNow_c el ?_ ?_ ?_ ?_ ?_ ?_ ?_ ?_ t4, iImg_c (Int.le_refl b) l4 l6 el ?_ ?_ ?_ ?_ ?_ t5, iGue_c el ?_ ?_ ?_ ?_ ?_ ?_ ?_ ?_ ?_ ?_ t6, iPl_c ?_ ?_ ?_ ?_ ?_ ?_ t7, iLw_c ?_ ?_ ?_ ?_ t8⟩
  all_goals first | (exact e _ _ rfl (by omega)) | (exact e1 _ (fun _ => rfl) (fun _ => by omega)) | (intro j; exact e _ _ rfl (by omega)) | skip
  · intro k hk
    exact e1 _ (fun j => rel_h j k hk) (fun _ => by omega)
  intro k hk
  exact e1 _ (fun j => rel_p j k hk) (fun _ => by omega)
theorem Inv_Law {b : Int} {g g2 : MH} (i : Inv0 b g) (e : ∀ a j, relB a j = true → ¬ ((a = 6 ∧ j = 2) ∨ (a = 97 ∧ j = 34)) → g2 a j = g a j) (n : iLw g2) : Inv0 b g2 := by
  obtain ⟨t1, t2, t3, t4, t5, t6, t7, t8⟩ := (Inv0_iff b g).mp i
  obtain ⟨l1, l2, l3, l4, l5, l6, l7⟩ := lg_n i
  have e1 : ∀ a, (∀ j, relB a j = true) → (∀ j, ¬ ((a = 6 ∧ j = 2) ∨ (a = 97 ∧ j = 34))) → g2 a = g a := fun a h0 h1 => funext fun j => e a j (h0 j) (h1 j)
  have el : lgE g g2 := ⟨e _ _ rfl (by omega), e _ _ rfl (by omega)⟩
  refine (Inv0_iff b g2).mpr ⟨iTape_c ?_ ?_ ?_ ?_ t1, iDamp_c ?_ ?_ t2, iLg_c el ?_ ?_ ?_ ?_ ?_ ?_ ?_ ?_ t3, iNow_c el ?_ ?_ ?_ ?_ ?_ ?_ ?_ ?_ t4, iImg_c (Int.le_refl b) l4 l6 el ?_ ?_ ?_ ?_ ?_ t5, iGue_c el ?_ ?_ ?_ ?_ ?_ ?_ ?_ ?_ ?_ ?_ t6, iPl_c ?_ ?_ ?_ ?_ ?_ ?_ t7, n⟩
  all_goals first | (exact e _ _ rfl (by omega)) | (exact e1 _ (fun _ => rfl) (fun _ => by omega)) | (intro j; exact e _ _ rfl (by omega)) | skip
  · intro k hk
    exact e1 _ (fun j => rel_h j k hk) (fun _ => by omega)
  intro k hk
  exact e1 _ (fun j => rel_p j k hk) (fun _ => by omega)
theorem Inv_Gue {b : Int} {g g2 : MH} (i : Inv0 b g) (e : ∀ a j, relB a j = true → ¬ (a = 46 ∨ a = 48 ∨ a = 49 ∨ a = 115 ∨ a = 117 ∨ a = 118 ∨ (a = 10 ∧ (j = 2 ∨ j = 3)) ∨ (a = 97 ∧ (j = 46 ∨ j = 49))) → g2 a j = g a j) (n : iGue g2) : Inv0 b g2 := by
  obtain ⟨t1, t2, t3, t4, t5, t6, t7, t8⟩ := (Inv0_iff b g).mp i
  obtain ⟨l1, l2, l3, l4, l5, l6, l7⟩ := lg_n i
  have e1 : ∀ a, (∀ j, relB a j = true) → (∀ j, ¬ (a = 46 ∨ a = 48 ∨ a = 49 ∨ a = 115 ∨ a = 117 ∨ a = 118 ∨ (a = 10 ∧ (j = 2 ∨ j = 3)) ∨ (a = 97 ∧ (j = 46 ∨ j = 49)))) → g2 a = g a := fun a h0 h1 => funext fun j => e a j (h0 j) (h1 j)
  have el : lgE g g2 := ⟨e _ _ rfl (by omega), e _ _ rfl (by omega)⟩
  refine (Inv0_iff b g2).mpr ⟨iTape_c ?_ ?_ ?_ ?_ t1, iDamp_c ?_ ?_ t2, iLg_c el ?_ ?_ ?_ ?_ ?_ ?_ ?_ ?_ t3, iNow_c el ?_ ?_ ?_ ?_ ?_ ?_ ?_ ?_ t4, iImg_c (Int.le_refl b) l4 l6 el ?_ ?_ ?_ ?_ ?_ t5, n, iPl_c ?_ ?_ ?_ ?_ ?_ ?_ t7, iLw_c ?_ ?_ ?_ ?_ t8⟩
  all_goals first | (exact e _ _ rfl (by omega)) | (exact e1 _ (fun _ => rfl) (fun _ => by omega)) | (intro j; exact e _ _ rfl (by omega)) | skip
  · intro k hk
    exact e1 _ (fun j => rel_h j k hk) (fun _ => by omega)
  intro k hk
  exact e1 _ (fun j => rel_p j k hk) (fun _ => by omega)
theorem Inv_Img {b : Int} {g g2 : MH} (i : Inv0 b g) (e : ∀ a j, relB a j = true → ¬ (a = 95 ∨ a = 96 ∨ a = 119 ∨ (a = 0 ∧ j = 13) ∨ (a = 97 ∧ j = 51)) → g2 a j = g a j) (n : iImg b g2) : Inv0 b g2 := by
  obtain ⟨t1, t2, t3, t4, t5, t6, t7, t8⟩ := (Inv0_iff b g).mp i
  obtain ⟨l1, l2, l3, l4, l5, l6, l7⟩ := lg_n i
  have e1 : ∀ a, (∀ j, relB a j = true) → (∀ j, ¬ (a = 95 ∨ a = 96 ∨ a = 119 ∨ (a = 0 ∧ j = 13) ∨ (a = 97 ∧ j = 51))) → g2 a = g a := fun a h0 h1 => funext fun j => e a j (h0 j) (h1 j)
  have el : lgE g g2 := ⟨e _ _ rfl (by omega), e _ _ rfl (by omega)⟩
  refine (Inv0_iff b g2).mpr ⟨iTape_c ?_ ?_ ?_ ?_ t1, iDamp_c ?_ ?_ t2, iLg_c el ?_ ?_ ?_ ?_ ?_ ?_ ?_ ?_ t3, iNow_c el ?_ ?_ ?_ ?_ ?_ ?_ ?_ ?_ t4, n, iGue_c el ?_ ?_ ?_ ?_ ?_ ?_ ?_ ?_ ?_ ?_ t6, iPl_c ?_ ?_ ?_ ?_ ?_ ?_ t7, iLw_c ?_ ?_ ?_ ?_ t8⟩
  all_goals first | (exact e _ _ rfl (by omega)) | (exact e1 _ (fun _ => rfl) (fun _ => by omega)) | (intro j; exact e _ _ rfl (by omega)) | skip
  · intro k hk
    exact e1 _ (fun j => rel_h j k hk) (fun _ => by omega)
  intro k hk
  exact e1 _ (fun j => rel_p j k hk) (fun _ => by omega)
