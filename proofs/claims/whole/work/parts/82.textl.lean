/-! a league is told -/
def ncF (S : LgS) (j : Nat) : Int := if j = 0 then S.2.1 2 else if j = 1 then S.2.1 0 else if j = 2 then S.2.1 1 else if 6 ≤ j ∧ j < 6 + S.2.2.2.1 then S.2.2.2.2 (3 * (j - 6) + 2) else if 21 ≤ j ∧ j < 21 + S.2.2.1.1 then S.2.2.1.2 (3 * (j - 21) + 2) else 0
def nmV (S : LgS) (j : Nat) : Int := if j < S.2.2.1.1 then S.2.2.1.2 (3 * j + 2) else if j = 31 then S.2.1 2 else if j = 32 then S.2.1 0 else if j = 33 then S.2.1 1 else if 16 ≤ j ∧ j < 16 + 3 * S.2.2.2.1 ∧ (j - 16) % 3 = 0 then S.2.2.2.2 (j - 16 + 2) else 0
theorem e_fillN (d : Nat) (h : MH) : ∃ h1, Run d 48 0 [vR 91, .inl 0, vU, vU] [] h = some (none, h1) ∧ (∀ a, a ≠ 91 → h1 a = h a) ∧ ∀ j, j < 37 → h1 91 j = 0 := by
  have key : ∀ (r k : Nat) (g : MH), k + r = 37 → (∀ a, a ≠ 91 → g a = h a) → (∀ j, j < k → g 91 j = 0) → ∃ g2, Run d 48 5 [vR 91, .inl 0, .inl (k : Int), .inl 37] [] g = some (none, g2) ∧ (∀ a, a ≠ 91 → g2 a = h a) ∧ ∀ j, j < 37 → g2 91 j = 0 := by
    intro r
    induction r with
    | zero =>
      intro k g hk e1 e2
      exact ⟨g, by rw [q48_5_1, if_pos (by omega)], e1, fun j hj => e2 j (by omega)⟩
    | succ r ih =>
      intro k g hk e1 e2
      obtain ⟨g2, u1, u2, u3⟩ := ih (k + 1) (up g 91 k 0) (by omega) (fun a ha => by rw [up_ne ha, e1 a ha]) (fun j hj => by
        by_cases z : j = k
        · rw [z, up_s]
        · rw [up_i z]; exact e2 j (by omega))
      refine ⟨g2, ?_, u2, u3⟩
      rw [← u1, q48_5_1, if_neg (by omega), if_pos (by omega), wI_ok (by omega) (by omega), show (k : Int) + 1 = ((k + 1 : Nat) : Int) by omega, show ((k : Nat) : Int).toNat = k by omega]
  rw [q48_0_1]
  exact key 37 0 h (by omega) (fun _ _ => rfl) (fun j hj => by omega)
theorem e_fillR (d : Nat) (h : MH) : ∃ h1, Run d 48 0 [vR 39, .inl 0, vU, vU] [] h = some (none, h1) ∧ (∀ a, a ≠ 39 → h1 a = h a) ∧ ∀ j, j < 40 → h1 39 j = 0 := by
  have key : ∀ (r k : Nat) (g : MH), k + r = 40 → (∀ a, a ≠ 39 → g a = h a) → (∀ j, j < k → g 39 j = 0) → ∃ g2, Run d 48 5 [vR 39, .inl 0, .inl (k : Int), .inl 40] [] g = some (none, g2) ∧ (∀ a, a ≠ 39 → g2 a = h a) ∧ ∀ j, j < 40 → g2 39 j = 0 := by
    intro r
    induction r with
    | zero =>
      intro k g hk e1 e2
      exact ⟨g, by rw [q48_5_2, if_pos (by omega)], e1, fun j hj => e2 j (by omega)⟩
    | succ r ih =>
      intro k g hk e1 e2
      obtain ⟨g2, u1, u2, u3⟩ := ih (k + 1) (up g 39 k 0) (by omega) (fun a ha => by rw [up_ne ha, e1 a ha]) (fun j hj => by
        by_cases z : j = k
        · rw [z, up_s]
        · rw [up_i z]; exact e2 j (by omega))
      refine ⟨g2, ?_, u2, u3⟩
      rw [← u1, q48_5_2, if_neg (by omega), if_pos (by omega), wI_ok (by omega) (by omega), show (k : Int) + 1 = ((k + 1 : Nat) : Int) by omega, show ((k : Nat) : Int).toNat = k by omega]
  rw [q48_0_2]
  exact key 40 0 h (by omega) (fun _ _ => rfl) (fun j hj => by omega)
/-- the league's data in the class -/
def lgD (S : LgS) (h : MH) : Prop := h 2 3 = S.2.2.1.1 ∧ h 2 4 = S.2.2.2.1 ∧ (∀ k, k < 4 → h 16 k = S.2.1 k) ∧ (∀ j, j < 3 * S.2.2.1.1 → h 17 j = S.2.2.1.2 j) ∧ ∀ j, j < 3 * S.2.2.2.1 → h 18 j = S.2.2.2.2 j
theorem lgD.mv {S : LgS} {h h2 : MH} (l : lgD S h) (e : ∀ a, a ≠ 91 → h2 a = h a) : lgD S h2 := by
  obtain ⟨l1, l2, l3, l4, l5⟩ := l
  exact ⟨by rw [e _ (by omega)]; exact l1, by rw [e _ (by omega)]; exact l2, by rw [e _ (by omega)]; exact l3, by rw [e _ (by omega)]; exact l4, by rw [e _ (by omega)]; exact l5⟩
theorem e_sbegin {S : LgS} {h : MH} (l : lgD S h) (b1 : S.2.2.1.1 ≤ 8) (b2 : S.2.2.2.1 ≤ 5) (d : Nat) : ∃ h1, Run (d + 1) 47 0 [vR 12, vR 2, vU] [] h = some (none, h1) ∧ (∀ a, a ≠ 91 → h1 a = h a) ∧ ∀ j, j < 37 → h1 91 j = ncF S j := by
  obtain ⟨h1, u1, u2, u3⟩ := e_fillN d h
  have l1 := l.mv u2
  obtain ⟨l1a, l1b, l1c, l1d, l1e⟩ := id l1
  obtain ⟨g0, hg0⟩ : ∃ g0, g0 = up (up (up h1 91 0 (S.2.1 2)) 91 1 (S.2.1 0)) 91 2 (S.2.1 1) := ⟨_, rfl⟩
  have g0n : ∀ a, a ≠ 91 → g0 a = h a := fun a ha => by rw [hg0, up_ne ha, up_ne ha, up_ne ha, u2 a ha]
  have lp2 : ∀ (r k : Nat) (g : MH), k + r = S.2.2.2.1 → (∀ a, a ≠ 91 → g a = h a) → (∀ j, j < 37 → g 91 j = if 6 + k ≤ j ∧ j < 6 + S.2.2.2.1 then 0 else ncF S j) → ∃ g2, Run (d + 1) 47 70 [vR 12, vR 2, .inl (k : Int)] [] g = some (none, g2) ∧ (∀ a, a ≠ 91 → g2 a = h a) ∧ ∀ j, j < 37 → g2 91 j = ncF S j := by
    intro r
    induction r with
    | zero =>
      intro k g hk e1 e2
      refine ⟨g, ?_, e1, fun j hj => by rw [e2 j hj, if_neg (by omega)]⟩
      rw [q47_70, (l.mv e1).2.1, if_pos (by omega)]
    | succ r ih =>
      intro k g hk e1 e2
      have lg := l.mv e1
      obtain ⟨g2, v1, v2, v3⟩ := ih (k + 1) (up g 91 (6 + k) (S.2.2.2.2 (3 * k + 2))) (by omega) (fun a ha => by rw [up_ne ha, e1 a ha]) (fun j hj => by
        by_cases z : j = 6 + k
        · rw [z, up_s, if_neg (by omega)]
          unfold ncF
          rw [if_neg (by omega), if_neg (by omega), if_neg (by omega), if_pos (by omega), show 3 * (6 + k - 6) + 2 = 3 * k + 2 by omega]
        · rw [up_i z, e2 j hj]
          by_cases z2 : 6 + k ≤ j ∧ j < 6 + S.2.2.2.1
          · rw [if_pos z2, if_pos (by omega)]
          · rw [if_neg z2, if_neg (by omega)])
      refine ⟨g2, ?_, v2, v3⟩
      rw [← v1, q47_70, lg.2.1, if_neg (by omega), q19_0, wI_ok (x := (k : Int) * 3) (by omega) (by omega), wI_ok (x := (k : Int) * 3 + 2) (by omega) (by omega), if_pos (by omega), cI_some, show ((k : Int) * 3 + 2).toNat = 3 * k + 2 by omega, lg.2.2.2.2 (3 * k + 2) (by omega), wI_ok (x := 6 + (k : Int)) (by omega) (by omega), if_pos (by omega), show (6 + (k : Int)).toNat = 6 + k by omega, wI_ok (by omega) (by omega)]
      rfl
  have lp1 : ∀ (r k : Nat) (g : MH), k + r = S.2.2.1.1 → (∀ a, a ≠ 91 → g a = h a) → (∀ j, j < 37 → g 91 j = if (6 ≤ j ∧ j < 6 + S.2.2.2.1) ∨ (21 + k ≤ j ∧ j < 21 + S.2.2.1.1) then 0 else ncF S j) → ∃ g2, Run (d + 1) 47 40 [vR 12, vR 2, .inl (k : Int)] [] g = some (none, g2) ∧ (∀ a, a ≠ 91 → g2 a = h a) ∧ ∀ j, j < 37 → g2 91 j = ncF S j := by
    intro r
    induction r with
    | zero =>
      intro k g hk e1 e2
      obtain ⟨g2, v1, v2, v3⟩ := lp2 S.2.2.2.1 0 g (by omega) e1 (fun j hj => by
        rw [e2 j hj]
        by_cases z : 6 ≤ j ∧ j < 6 + S.2.2.2.1
        · rw [if_pos (Or.inl z), if_pos (by omega)]
        · rw [if_neg (by omega), if_neg (by omega)])
      refine ⟨g2, ?_, v2, v3⟩
      rw [q47_40, (l.mv e1).1, if_pos (by omega)]
      exact v1
    | succ r ih =>
      intro k g hk e1 e2
      have lg := l.mv e1
      obtain ⟨g2, v1, v2, v3⟩ := ih (k + 1) (up g 91 (21 + k) (S.2.2.1.2 (3 * k + 2))) (by omega) (fun a ha => by rw [up_ne ha, e1 a ha]) (fun j hj => by
        by_cases z : j = 21 + k
        · rw [z, up_s, if_neg (by omega)]
          unfold ncF
          rw [if_neg (by omega), if_neg (by omega), if_neg (by omega), if_neg (by omega), if_pos (by omega), show 3 * (21 + k - 21) + 2 = 3 * k + 2 by omega]
        · rw [up_i z, e2 j hj]
          by_cases z2 : (6 ≤ j ∧ j < 6 + S.2.2.2.1) ∨ (21 + k ≤ j ∧ j < 21 + S.2.2.1.1)
          · rw [if_pos z2, if_pos (by omega)]
          · rw [if_neg z2, if_neg (by omega)])
      refine ⟨g2, ?_, v2, v3⟩
      rw [← v1, q47_40, lg.1, if_neg (by omega), q52_0, wI_ok (x := (k : Int) * 3) (by omega) (by omega), wI_ok (x := (k : Int) * 3 + 2) (by omega) (by omega), if_pos (by omega), cI_some, show ((k : Int) * 3 + 2).toNat = 3 * k + 2 by omega, lg.2.2.2.1 (3 * k + 2) (by omega), wI_ok (x := 21 + (k : Int)) (by omega) (by omega), if_pos (by omega), show (21 + (k : Int)).toNat = 21 + k by omega, wI_ok (by omega) (by omega)]
      rfl
  obtain ⟨g2, v1, v2, v3⟩ := lp1 S.2.2.1.1 0 g0 (by omega) g0n (fun j hj => by
    have z0 := u3 j hj
    rw [hg0]
    by_cases z1 : j = 2
    · subst z1
      rw [up_s, if_neg (by omega)]
      rfl
    · rw [up_i z1]
      by_cases z2 : j = 1
      · subst z2
        rw [up_s, if_neg (by omega)]
        rfl
      · rw [up_i z2]
        by_cases z3 : j = 0
        · subst z3
          rw [up_s, if_neg (by omega)]
          rfl
        · rw [up_i z3, z0]
          by_cases z4 : (6 ≤ j ∧ j < 6 + S.2.2.2.1) ∨ (21 + 0 ≤ j ∧ j < 21 + S.2.2.1.1)
          · rw [if_pos z4]
          · rw [if_neg z4]
            unfold ncF
            rw [if_neg z3, if_neg z2, if_neg z1, if_neg (by omega), if_neg (by omega)])
  refine ⟨g2, ?_, v2, v3⟩
  rw [q47_0, u1, cV_some, q49_0, cI_some, q50_0, cI_some, q51_0, cI_some, up_ne (by omega), up_ne (by omega), up_ne (by omega), l1c 2 (by omega), l1c 0 (by omega), l1c 1 (by omega), ← hg0]
  exact v1
theorem e_begin {S : LgS} {h : MH} (s : dfC S h) (b1 : S.2.2.1.1 ≤ 8) (b2 : S.2.2.2.1 ≤ 5) (d : Nat) : ∃ h1, Run (d + 3) 45 0 [vR 0] [] h = some (none, h1) ∧ (∀ a j, ¬ (a = 1 ∧ j = 1) → a ≠ 16 → a ≠ 17 → a ≠ 18 → ¬ (a = 2 ∧ (j = 3 ∨ j = 4)) → a ≠ 91 → ¬ (a = 11 ∧ j = 0) → ¬ (a = 10 ∧ (j = 2 ∨ j = 3)) → a ≠ 39 → ¬ (a = 0 ∧ j = 13) → h1 a j = h a j) ∧ lgD S h1 ∧ (∀ j, j < 37 → h1 91 j = ncF S j) ∧ (∀ j, j < 40 → h1 39 j = 0) ∧ h1 1 1 = 0 ∧ h1 11 0 = 0 ∧ h1 10 2 = 0 ∧ h1 10 3 = 0 ∧ h1 0 13 = 0 := by
  obtain ⟨s1, s2, s3, s4, s5, s6⟩ := s
  obtain ⟨hA, hhA⟩ : ∃ hA, hA = up h 1 1 0 := ⟨_, rfl⟩
  have cp := q46_0 (d + 2) hA
  obtain ⟨hB, hhB⟩ : ∃ hB, hB = cpy (cpy (cpy hA (hA 19) 16 0 0 4) (cpy hA (hA 19) 16 0 0 4 20) 17 0 0 24) (cpy (cpy hA (hA 19) 16 0 0 4) (cpy hA (hA 19) 16 0 0 4 20) 17 0 0 24 21) 18 0 0 15 := ⟨_, rfl⟩
  rw [← hhB] at cp
  have bD : hB 4 = h 4 := by rw [hhB, cpy_ne (by omega), cpy_ne (by omega), cpy_ne (by omega), hhA, up_ne (by omega)]
  have bD2 : up hB 2 3 (hB 4 3) 4 4 = S.2.2.2.1 := by rw [up_a (by omega), bD]; exact s3
  rw [bD2, bD, s2] at cp
  obtain ⟨hC, hhC⟩ : ∃ hC, hC = up (up hB 2 3 (S.2.2.1.1 : Int)) 2 4 (S.2.2.2.1 : Int) := ⟨_, rfl⟩
  rw [← hhC] at cp
  have lC : lgD S hC := by
    refine ⟨by rw [hhC, up_i (by omega), up_s], by rw [hhC, up_s], fun k hk => ?_, fun j hj => ?_, fun j hj => ?_⟩
    · rw [hhC, up_ne (by omega), up_ne (by omega), hhB, cpy_ne (by omega), cpy_ne (by omega), cpy_at, hhA, up_ne (by omega)]
      show (if 0 ≤ k ∧ k < 0 + 4 then h 19 (0 + (k - 0)) else _) = _
      rw [if_pos (by omega), show 0 + (k - 0) = k by omega]
      exact s4 k hk
    · rw [hhC, up_ne (by omega), up_ne (by omega), hhB, cpy_ne (by omega), cpy_at, cpy_ne (by omega), hhA, up_ne (by omega)]
      show (if 0 ≤ j ∧ j < 0 + 24 then h 20 (0 + (j - 0)) else _) = _
      rw [if_pos (by omega), show 0 + (j - 0) = j by omega]
      exact s5 j hj
    · rw [hhC, up_ne (by omega), up_ne (by omega), hhB, cpy_at, cpy_ne (by omega), cpy_ne (by omega), hhA, up_ne (by omega)]
      show (if 0 ≤ j ∧ j < 0 + 15 then h 21 (0 + (j - 0)) else _) = _
      rw [if_pos (by omega), show 0 + (j - 0) = j by omega]
      exact s6 j hj
  obtain ⟨hD, v1, v2, v3⟩ := e_sbegin lC b1 b2 (d + 1)
  obtain ⟨hE, hhE⟩ : ∃ hE, hE = up (up (up hD 11 0 0) 10 2 0) 10 3 0 := ⟨_, rfl⟩
  obtain ⟨hF, w1, w2, w3⟩ := e_fillR (d + 1) hE
  have hd := q45_0 (d + 2) h
  rw [← hhA, cp, cV_some, v1, cV_some, q53_0, cV_some, q54_0, cV_some, ← hhE, q55_0, w1, cV_some, cV_some] at hd
  have s9 : ∀ (a j : Nat) (g : MH) (c k : Nat) (v : Int), ¬ (a = c ∧ j = k) → up g c k v a j = g a j := by
    intro a j g c k v ne
    by_cases z : a = c
    · subst z; exact up_i (fun y => ne ⟨rfl, y⟩)
    · exact up_a z
  have eF : ∀ a, a ≠ 39 → a ≠ 10 → a ≠ 11 → hF a = hD a := fun a n1 n2 n3 => by rw [w2 a n1, hhE, up_ne n2, up_ne n2, up_ne n3]
  refine ⟨_, hd, fun a j n1 n2 n3 n4 n5 n6 n7 n8 n9 n10 => ?_, ?_, fun j hj => ?_, fun j hj => ?_, ?_, ?_, ?_, ?_, ?_⟩
  · rw [s9 a j _ _ _ _ n10, w2 a n9, hhE, s9 a j _ _ _ _ (by omega), s9 a j _ _ _ _ (by omega), s9 a j _ _ _ _ n7, v2 a n6, hhC, s9 a j _ _ _ _ (by omega), s9 a j _ _ _ _ (by omega), hhB, cpy_ne n4, cpy_ne n3, cpy_ne n2, hhA, s9 a j _ _ _ _ n1]
  · obtain ⟨l1, l2, l3, l4, l5⟩ := lC.mv v2
    refine ⟨?_, ?_, ?_, ?_, ?_⟩
    · rw [up_a (by omega), eF _ (by omega) (by omega) (by omega)]; exact l1
    · rw [up_a (by omega), eF _ (by omega) (by omega) (by omega)]; exact l2
    · rw [up_ne (by omega), eF _ (by omega) (by omega) (by omega)]; exact l3
    · rw [up_ne (by omega), eF _ (by omega) (by omega) (by omega)]; exact l4
    · rw [up_ne (by omega), eF _ (by omega) (by omega) (by omega)]; exact l5
  · rw [up_a (by omega), eF _ (by omega) (by omega) (by omega)]; exact v3 j hj
  · rw [up_a (by omega)]; exact w3 j hj
  · rw [up_a (by omega), eF _ (by omega) (by omega) (by omega), v2 _ (by omega), hhC, up_a (by omega), up_a (by omega), hhB, cpy_ne (by omega), cpy_ne (by omega), cpy_ne (by omega), hhA, up_s]
  · rw [up_a (by omega), w2 _ (by omega), hhE, up_a (by omega), up_a (by omega), up_s]
  · rw [up_a (by omega), w2 _ (by omega), hhE, up_i (by omega), up_s]
  · rw [up_a (by omega), w2 _ (by omega), hhE, up_s]
  · rw [up_s]
