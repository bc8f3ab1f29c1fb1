/-! following, face, seen -/
def hfF (ff : Nat → Int) (x : Int) : Nat → Bool
  | 0 => false
  | k + 1 => hfF ff x k || decide (ff k = x)
theorem hfF_true {ff : Nat → Int} {x : Int} {j : Nat} (h : ff j = x) : ∀ n, j < n → hfF ff x n = true
  | 0, q => by omega
  | n + 1, q => by
    unfold hfF
    by_cases z : j = n
    · subst z; simp [h]
    · rw [hfF_true h n (by omega)]; rfl
theorem e_hasFaceOf (d : Nat) (x : Int) (h : MH) (h0 : 0 ≤ h 10 3) (h1 : h 10 3 ≤ 12) : Run d 163 0 [vR 10, .inl x, vU] [] h = some (some (.inl (bi (hfF (h 48) x (h 10 3).toNat = true))), h) := by
  rw [q163_0]
  have key : ∀ (k : Nat) (j : Int), 0 ≤ j → (h 10 3 - j).toNat = k → j ≤ h 10 3 → hfF (h 48) x j.toNat = false → Run d 163 2 [vR 10, .inl x, .inl j] [] h = some (some (.inl (bi (hfF (h 48) x (h 10 3).toNat = true))), h) := by
    intro k
    induction k with
    | zero =>
      intro j hj hk hjn hf
      have e : j = h 10 3 := by omega
      rw [q163_2, if_pos (by omega), bi_f]
      rw [← e, hf]
      exact Bool.false_ne_true
    | succ k ih =>
      intro j hj hk hjn hf
      rw [q163_2, if_neg (by omega), if_pos (by omega)]
      by_cases q : h 48 j.toNat = x
      · rw [if_neg (fun z => z q), bi_t (hfF_true q _ (by omega))]
      · rw [if_pos q, wI_ok (by omega) (by omega)]
        apply ih (j + 1) (by omega) (by omega) (by omega)
        rw [show (j + 1).toNat = j.toNat + 1 by omega]
        unfold hfF
        rw [hf]
        simp [q]
  exact key _ 0 (by omega) rfl h0 rfl
/-- the bits of those that were asked -/
theorem m_asked (d : Nat) (h : MH) (z : MV) (hz : cat z = 1) (h0 : 0 ≤ h 97 49) (h1 : h 97 49 ≤ 12) (hf : ∀ k : Nat, (k : Int) < h 97 49 → 0 ≤ h 117 k ∧ h 117 k < 8) :
    ∃ A : Nat, A < 256 ∧ (∀ x : Nat, A.testBit x = hfF (h 117) x (h 97 49).toNat) ∧ Run (d + 1) 293 9 [vR 97, .inl 0, .inl 0, z] [] h = Run (d + 1) 293 38 [vR 97, .inl A, .inl (-1), .inl 0] [] h := by
  have key : ∀ (k : Nat) (j : Int) (B : Nat), 0 ≤ j → (h 97 49 - j).toNat = k → j ≤ h 97 49 → B < 256 → (∀ x : Nat, B.testBit x = hfF (h 117) x j.toNat) → ∃ A : Nat, A < 256 ∧ (∀ x : Nat, A.testBit x = hfF (h 117) x (h 97 49).toNat) ∧ Run (d + 1) 293 9 [vR 97, .inl B, .inl j, z] [] h = Run (d + 1) 293 38 [vR 97, .inl A, .inl (-1), .inl 0] [] h := by
    intro k
    induction k with
    | zero =>
      intro j B hj hk hjn hB hx
      have e : j = h 97 49 := by omega
      refine ⟨B, hB, fun x => by rw [hx, e], ?_⟩
      rw [q293_9 (hz2 := hz), if_pos (by omega)]
    | succ k ih =>
      intro j B hj hk hjn hB hx
      have f1 := hf j.toNat (by omega)
      have f2 := shl_le (n := 8) f1.1 f1.2 (by omega)
      obtain ⟨F, hF⟩ := Int.eq_ofNat_of_zero_le f1.1
      have f3 : iShl 1 (h 117 j.toNat) = ((2 ^ F : Nat) : Int) := by rw [hF]; exact iShl_n F (by omega)
      have f4 : 2 ^ F < 256 := by rw [f3] at f2; omega
      have f5 : iOr (B : Int) (iShl 1 (h 117 j.toNat)) = ((B ||| 2 ^ F : Nat) : Int) := by rw [f3]; exact iOr_n (by omega) (by omega)
      obtain ⟨A, a1, a2, a3⟩ := ih (j + 1) (B ||| 2 ^ F) (by omega) (by omega) (by omega) (Nat.or_lt_two_pow (n := 8) hB f4) (fun x => by
        rw [Nat.testBit_or, hx, Nat.testBit_two_pow, show (j + 1).toNat = j.toNat + 1 by omega]
        conv => rhs; unfold hfF
        rw [hF]
        congr 1
        apply decide_eq_decide.mpr
        omega)
      refine ⟨A, a1, a2, ?_⟩
      rw [← a3, q293_9 (hz2 := hz), if_neg (by omega), if_pos (by omega), wI_ok (by omega) (by omega), f5]
  exact key _ 0 0 (by omega) rfl h0 (by omega) (fun x => by rw [Nat.zero_testBit]; rfl)
theorem hfF_congr {ff ff2 : Nat → Int} (x : Int) : ∀ n, (∀ k, k < n → ff2 k = ff k) → hfF ff2 x n = hfF ff x n
  | 0, _ => rfl
  | n + 1, h => by
    unfold hfF
    rw [hfF_congr x n (fun k hk => h k (by omega)), h n (by omega)]
theorem c_following {b : Int} {h : MH} (i : Inv0 b h) : Pr b b 162 293 [vR 0, vU, vU, vU, vU] [vR 97, vU, vU, vU] h := by
  apply Pr_ro i
  obtain ⟨l1, l2, l3, l4, l5, l6, l7⟩ := lg_n i
  obtain ⟨-, -, -, -, -, ⟨-, ⟨t1, t2, t3⟩, -, t4⟩, -⟩ := (Inv0_iff b h).mp i
  rw [q162_0, q293_0]
  have u1 : up h 97 0 0 97 49 = h 10 3 := by rw [up_i (by omega), t1]
  have u2 : up h 97 0 0 97 26 = h 2 3 := by rw [up_i (by omega), l1]
  obtain ⟨A, a1, a2, a3⟩ := m_asked 39 (up h 97 0 0) vU rfl (by omega) (by omega) (fun k hk => by
    rw [u1] at hk
    have := t4 k hk
    rw [up_a (by omega), this.1]
    omega)
  rw [a3]
  refine Bo_loop (L := fun j (a : Int × Int × MV) => Run 40 162 6 [vR 0, .inl a.1, .inl a.2.1, .inl j, a.2.2] [] h) (M := fun j a => Run 40 293 38 [vR 97, .inl A, .inl a, .inl j] [] (up h 97 0 0)) (P := fun j a b => 0 ≤ j ∧ a.1 = b ∧ cat a.2.2 = 1 ∧ ((b = -1 ∧ a.2.1 = -1) ∨ (0 ≤ b ∧ b < j ∧ a.2.1 = mtF (h 48) (h 49) (h 10 3).toNat (h 2 3).toNat b))) (n := h 2 3) ?_ ?_ 0 (-1, -1, vU) (-1) ⟨by omega, rfl, rfl, Or.inl ⟨rfl, rfl⟩⟩
  · rintro j ⟨a, m, z⟩ _ ⟨p1, rfl, p2, p3⟩ hj
    rw [q162_6 (hz3 := p2), q293_38, if_pos hj, if_pos (by rw [u2]; exact hj)]
    exact Bo_ret rfl
  · rintro j ⟨a, m, z⟩ _ ⟨p1, rfl, p2, p3⟩ hj
    right
    dsimp only at p2 p3
    have hA : iAnd (iShr (A : Int) j) 1 = bi (hfF (h 48) j (h 10 3).toNat = true) := by
      have := bit_n (n := A) (k := j.toNat) (by omega) (by omega)
      rw [show ((j.toNat : Nat) : Int) = j by omega] at this
      rw [this, a2, u1, show ((j.toNat : Nat) : Int) = j by omega, up_ne (by omega)]
      rw [hfF_congr (ff := h 48) j _ (fun k hk => (t4 k (by omega)).1)]
    have mb := mtF_b (h 48) (h 49) (n := (h 10 3).toNat) (f := (h 2 3).toNat) (x := j) (by omega) p1 (by omega)
    have hm : -1 ≤ m := by
      rcases p3 with p | p
      · omega
      · have := (mtF_b (h 48) (h 49) (n := (h 10 3).toNat) (f := (h 2 3).toNat) (x := a) (by omega) p.1 (by omega)).1
        omega
    have ep := e_partsFor 38 j h t2 t3 p1 hj l4
    have em : ∀ x : Int, 0 ≤ x → x < h 2 3 → Run 39 291 0 [vR 97, .inl x, vU, vU, vU] [] (up h 97 0 0) = some (some (.inl (mtF (h 48) (h 49) (h 10 3).toNat (h 2 3).toNat x)), up h 97 0 0) := by
      intro x hx0 hx1
      have := m_meantFor 38 x (up h 97 0 0) (by omega) (by omega) hx0 (by omega) (by omega)
      rw [this]
      congr 4
      exact mtF_e i x
    by_cases q : hfF (h 48) j (h 10 3).toNat = true
    · refine ⟨(a, m, .inl (-1)), a, ?_, ?_, by omega, rfl, rfl, ?_⟩
      · rw [q162_6 (hz3 := p2), if_neg (by omega), e_hasFaceOf _ _ _ t2 t3, cI_some, bi_t q, if_neg (by omega), if_pos (show (-1 : Int) ≤ m from hm), wI_ok (by omega) (by omega)]
      · rw [q293_38, if_neg (by rw [u2]; omega), m_has, cI_some, hA, bi_t q, if_pos (by omega), wI_ok (by omega) (by omega)]
      · rcases p3 with p | p
        · exact Or.inl p
        · exact Or.inr ⟨p.1, by omega, p.2.2⟩
    · by_cases q2 : a = -1
      · refine ⟨(j, mtF (h 48) (h 49) (h 10 3).toNat (h 2 3).toNat j, .inl (mtF (h 48) (h 49) (h 10 3).toNat (h 2 3).toNat j)), j, ?_, ?_, by omega, rfl, rfl, Or.inr ⟨p1, by omega, rfl⟩⟩
        · rw [q162_6 (hz3 := p2), if_neg (by omega), e_hasFaceOf _ _ _ t2 t3, cI_some, bi_f q, if_pos rfl, ep, cI_some, if_neg (by show ¬ _ ≤ m; omega), wI_ok (by omega) (by omega)]
        · rw [q293_38, if_neg (by rw [u2]; omega), m_has, cI_some, hA, bi_f q, if_neg (by omega), if_pos q2, wI_ok (by omega) (by omega)]
      · have p4 : 0 ≤ a ∧ a < j ∧ m = mtF (h 48) (h 49) (h 10 3).toNat (h 2 3).toNat a := by
          rcases p3 with p | p
          · exact absurd p.1 q2
          · exact p
        by_cases q3 : mtF (h 48) (h 49) (h 10 3).toNat (h 2 3).toNat j ≤ m
        · refine ⟨(a, m, .inl (mtF (h 48) (h 49) (h 10 3).toNat (h 2 3).toNat j)), a, ?_, ?_, by omega, rfl, rfl, Or.inr ⟨p4.1, by omega, p4.2.2⟩⟩
          · rw [q162_6 (hz3 := p2), if_neg (by omega), e_hasFaceOf _ _ _ t2 t3, cI_some, bi_f q, if_pos rfl, ep, cI_some, if_pos q3, wI_ok (by omega) (by omega)]
          · rw [q293_38, if_neg (by rw [u2]; omega), m_has, cI_some, hA, bi_f q, if_neg (by omega), if_neg q2, em j p1 hj, cI_some, em a p4.1 (by omega), cI_some, if_pos (by rw [← p4.2.2]; exact q3), wI_ok (by omega) (by omega)]
        · refine ⟨(j, mtF (h 48) (h 49) (h 10 3).toNat (h 2 3).toNat j, .inl (mtF (h 48) (h 49) (h 10 3).toNat (h 2 3).toNat j)), j, ?_, ?_, by omega, rfl, rfl, Or.inr ⟨p1, by omega, rfl⟩⟩
          · rw [q162_6 (hz3 := p2), if_neg (by omega), e_hasFaceOf _ _ _ t2 t3, cI_some, bi_f q, if_pos rfl, ep, cI_some, if_neg q3, wI_ok (by omega) (by omega)]
          · rw [q293_38, if_neg (by rw [u2]; omega), m_has, cI_some, hA, bi_f q, if_neg (by omega), if_neg q2, em j p1 hj, cI_some, em a p4.1 (by omega), cI_some, if_neg (by rw [← p4.2.2]; exact q3), wI_ok (by omega) (by omega)]
