/-! the invariant's parts over the whole heap; calls that only read, or write one number -/
theorem rel_h (j : Nat) : ∀ k, k < 40 → relB (51 + k) j = true
  | 0, _ => rfl
  | 1, _ => rfl
  | 2, _ => rfl
  | 3, _ => rfl
  | 4, _ => rfl
  | 5, _ => rfl
  | 6, _ => rfl
  | 7, _ => rfl
  | 8, _ => rfl
  | 9, _ => rfl
  | 10, _ => rfl
  | 11, _ => rfl
  | 12, _ => rfl
  | 13, _ => rfl
  | 14, _ => rfl
  | 15, _ => rfl
  | 16, _ => rfl
  | 17, _ => rfl
  | 18, _ => rfl
  | 19, _ => rfl
  | 20, _ => rfl
  | 21, _ => rfl
  | 22, _ => rfl
  | 23, _ => rfl
  | 24, _ => rfl
  | 25, _ => rfl
  | 26, _ => rfl
  | 27, _ => rfl
  | 28, _ => rfl
  | 29, _ => rfl
  | 30, _ => rfl
  | 31, _ => rfl
  | 32, _ => rfl
  | 33, _ => rfl
  | 34, _ => rfl
  | 35, _ => rfl
  | 36, _ => rfl
  | 37, _ => rfl
  | 38, _ => rfl
  | 39, _ => rfl
  | k + 40, h => absurd h (by omega)
theorem rel_p (j : Nat) : ∀ k, k < 4 → relB (33 + k) j = true
  | 0, _ => rfl
  | 1, _ => rfl
  | 2, _ => rfl
  | 3, _ => rfl
  | k + 4, h => absurd h (by omega)
theorem res_h (h : MH) (k : Nat) (hk : k < 40) : res h (51 + k) = h (51 + k) := funext fun j => res_at (rel_h j k hk)
theorem res_p (h : MH) (k : Nat) (hk : k < 4) : res h (33 + k) = h (33 + k) := funext fun j => res_at (rel_p j k hk)
theorem iTape_res (h : MH) : iTape (res h) = iTape h := rfl
theorem iDamp_res (h : MH) : iDamp (res h) = iDamp h := rfl
theorem iLg_res (h : MH) : iLg (res h) = iLg h := rfl
theorem iImg_res (b : Int) (h : MH) : iImg b (res h) = iImg b h := rfl
theorem iGue_res (h : MH) : iGue (res h) = iGue h := rfl
theorem iLw_res (h : MH) : iLw (res h) = iLw h := rfl
theorem hRow_res (h : MH) (i : Nat) : hRow (res h) i = hRow h i := by
  unfold hRow
  exact res_h h _ (Nat.mod_lt _ (by omega))
theorem uRow_res (h : MH) (i : Nat) : uRow (res h) i = uRow h i := rfl
theorem iNow_res (b : Int) (h : MH) : iNow b (res h) = iNow b h := by
  unfold iNow
  simp only [hRow_res, uRow_res]
  rfl
theorem iPl_res (h : MH) : iPl (res h) = iPl h := by
  apply propext
  have e : ∀ k : Nat, (k : Int) < res h 7 1 → 0 ≤ res h 7 1 ∧ res h 7 1 ≤ 4 → res h (33 + k) = h (33 + k) := fun k h1 h2 => res_p h k (by omega)
  constructor
  · rintro ⟨h1, h2⟩
    refine ⟨h1, fun k hk => ?_⟩
    obtain ⟨a1, a2, a3⟩ := h2 k hk
    have e1 := e k hk h1.2
    exact ⟨a1, a2, fun i hi => by
      obtain ⟨b1, b2⟩ := a3 i hi
      rw [e1] at b1 b2
      exact ⟨b1, b2⟩⟩
  · rintro ⟨h1, h2⟩
    refine ⟨h1, fun k hk => ?_⟩
    obtain ⟨a1, a2, a3⟩ := h2 k hk
    have e1 := e k hk h1.2
    exact ⟨a1, a2, fun i hi => by
      obtain ⟨b1, b2⟩ := a3 i hi
      rw [e1]
      exact ⟨b1, b2⟩⟩
theorem Inv0_iff (b : Int) (h : MH) : Inv0 b h ↔ iTape h ∧ iDamp h ∧ iLg h ∧ iNow b h ∧ iImg b h ∧ iGue h ∧ iPl h ∧ iLw h := by
  unfold Inv0
  rw [iTape_res, iDamp_res, iLg_res, iNow_res, iImg_res, iGue_res, iPl_res, iLw_res]
/-- a cell's place outside a part -/
theorem up_hRow {h : MH} {a j i : Nat} {v : Int} (e : a < 51 ∨ 51 + 40 ≤ a) (e2 : ¬ (a = 11 ∧ j = 2)) : hRow (up h a j v) i = hRow h i := by
  unfold hRow
  have e3 : up h a j v 11 2 = h 11 2 := by
    by_cases q : 11 = a
    · subst q
      exact up_i (fun z => e2 ⟨rfl, z.symm⟩)
    · exact up_a q
  rw [e3]
  have := Nat.mod_lt (h 11 2 + 39 - i).toNat (show 0 < 40 by omega)
  exact up_ne (by omega)
