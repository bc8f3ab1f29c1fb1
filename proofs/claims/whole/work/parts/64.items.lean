/-! items of a clause: those from f0 on, n of them -/
def ixN (f0 : Nat) (x : Int) : Nat → Nat → Int
  | 0, _ => -1
  | r + 1, k => if chF 131 (f0 + k) = x then (k : Int) else ixN f0 x r (k + 1)
theorem ix_b (f0 : Nat) (x : Int) : ∀ (r k : Nat), ixN f0 x r k = -1 ∨ ((k : Int) ≤ ixN f0 x r k ∧ ixN f0 x r k < k + r)
  | 0, _ => Or.inl rfl
  | r + 1, k => by
    unfold ixN
    by_cases q : chF 131 (f0 + k) = x
    · rw [if_pos q]; exact Or.inr (by omega)
    · rw [if_neg q]
      have := ix_b f0 x r (k + 1)
      omega
theorem ix_no (f0 : Nat) (x : Int) : ∀ (r k : Nat), (∀ j, k ≤ j → j < k + r → chF 131 (f0 + j) ≠ x) → ixN f0 x r k = -1
  | 0, _, _ => rfl
  | r + 1, k, h => by
    unfold ixN
    rw [if_neg (h k (by omega) (by omega))]
    exact ix_no f0 x r (k + 1) (fun j h1 h2 => h j (by omega) (by omega))
theorem ch131 {k : Nat} (hk : k < 10) : 97 ≤ chF 131 k ∧ chF 131 k ≤ 122 := by
  have r : ∀ k : Fin 10, 97 ≤ chF 131 k ∧ chF 131 k ≤ 122 := by decide +kernel
  exact r ⟨k, hk⟩
theorem ix_ng {T : Nat → Int} {L p f0 n : Nat} (x : txOK T L) (hn : f0 + n ≤ 10) : ixN f0 (ngF T L p) n 0 = ixN f0 (lkG T L p) n 0 := by
  unfold ngF lkG l8F
  by_cases q : p < L
  · rw [if_pos q, if_pos q]
    have b := x p q
    by_cases q2 : T p < 0
    · rw [if_pos q2, ix_no, ix_no]
      · intro j h1 h2 z; have := ch131 (k := f0 + j) (by omega); omega
      · intro j h1 h2 z; have := ch131 (k := f0 + j) (by omega); omega
    · rw [if_neg q2]
  · rw [if_neg q, if_neg q, ix_no, ix_no]
    · intro j h1 h2 z; have := ch131 (k := f0 + j) (by omega); omega
    · intro j h1 h2 z; have := ch131 (k := f0 + j) (by omega); omega
theorem ix_L {T : Nat → Int} {L p f0 n : Nat} (hn : f0 + n ≤ 10) (h : ¬ ixN f0 (lkG T L p) n 0 = -1) : p < L := by
  apply Classical.byContradiction
  intro q
  apply h
  unfold lkG
  rw [if_neg q, ix_no]
  intro j h1 h2 z
  have := ch131 (k := f0 + j) (by omega)
  omega
theorem e_itemOf (d : Nat) (h : MH) (x : Int) {f0 n : Nat} (hn : f0 + n ≤ 10) : Run (d + 5) 10 0 [.inl x, .inl (f0 : Int), .inl ((f0 + n : Nat) : Int), vU] [] h = some (some (.inl (if ixN f0 x n 0 = -1 then -1 else f0 + ixN f0 x n 0)), h) := by
  have key : ∀ (r k : Nat), k + r = n → Run (d + 5) 10 2 [.inl x, .inl (f0 : Int), .inl ((f0 + n : Nat) : Int), .inl ((f0 + k : Nat) : Int)] [] h = some (some (.inl (if ixN f0 x r k = -1 then -1 else f0 + ixN f0 x r k)), h) := by
    intro r
    induction r with
    | zero =>
      intro k hk
      rw [q10_2 (hz1 := rfl), if_pos (by omega)]
      unfold ixN
      rw [if_pos rfl]
    | succ r ih =>
      intro k hk
      rw [q10_2 (hz1 := rfl), if_neg (by omega), s_at124 d h (by omega), cI_some]
      unfold ixN
      by_cases q : chF 131 (f0 + k) = x
      · rw [if_neg (fun z => z q), if_pos q, if_neg (by omega)]
        rfl
      · rw [if_pos q, if_neg q, wI_ok (by omega) (by omega), ← ih (k + 1) (by omega)]
        rfl
  rw [q10_0]
  exact key n 0 (by omega)
def tlS (tl : Nat → Bool) (k : Nat) : Nat → Bool := fun j => if j = k then true else tl j
def imF (f0 n : Nat) (T : Nat → Int) (L : Nat) : Nat → Nat → (Nat → Bool) → (Nat → Int) → Nat × Option (Nat → Int)
  | 0, a, _, _ => (a, none)
  | r + 1, a, tl, w => if ixN f0 (lkG T L (skF T L a)) n 0 = -1 then (skF T L a, some w) else if tl (ixN f0 (lkG T L (skF T L a)) n 0).toNat = true then (skF T L a, none) else
    match nmF T L 2 (skF T L (skF T L a + 1)) 0 false with
    | (q, none) => (q, none)
    | (q, some v) => if v < ro 122 (f0 + (ixN f0 (lkG T L (skF T L a)) n 0).toNat) ∨ ro 123 (f0 + (ixN f0 (lkG T L (skF T L a)) n 0).toNat) < v then (q - 1, none) else imF f0 n T L r q (tlS tl (ixN f0 (lkG T L (skF T L a)) n 0).toNat) (su w (ixN f0 (lkG T L (skF T L a)) n 0).toNat v)
theorem it_L {f0 n : Nat} {T : Nat → Int} {L : Nat} (hn : f0 + n ≤ 10) : ∀ (r a : Nat) (tl : Nat → Bool) (w : Nat → Int), a ≤ L → (imF f0 n T L r a tl w).1 ≤ L
  | 0, a, _, _, h => h
  | r + 1, a, tl, w, h => by
    have s0 := sk_L (T := T) h
    unfold imF
    by_cases q0 : ixN f0 (lkG T L (skF T L a)) n 0 = -1
    · rw [if_pos q0]; exact s0
    · rw [if_neg q0]
      have pL := ix_L hn q0
      split
      · exact s0
      · have nl := nm_L (T := T) 2 (skF T L (skF T L a + 1)) 0 false (sk_L pL)
        generalize nmF T L 2 (skF T L (skF T L a + 1)) 0 false = o at nl ⊢
        obtain ⟨q, o⟩ := o
        cases o with
        | none => exact nl.2
        | some v =>
          dsimp only
          split
          · show q - 1 ≤ L
            have : q ≤ L := nl.2
            omega
          · exact it_L hn r q _ _ nl.2
theorem cn_tl {tl : Nat → Bool} {k : Nat} (h : tl k = false) : ∀ n, cnF (tlS tl k) n = cnF tl n + (if k < n then 1 else 0)
  | 0 => rfl
  | n + 1 => by
    have ih := cn_tl h n
    unfold cnF
    unfold tlS at ih ⊢
    by_cases q : n = k
    · subst q
      rw [if_pos (if_pos rfl), if_neg (by rw [h]; exact Bool.false_ne_true), ih, if_neg (by omega), if_pos (by omega)]
    · by_cases q2 : tl n = true
      · rw [if_pos (by rw [if_neg q]; exact q2), if_pos q2, ih]
        by_cases q3 : k < n
        · rw [if_pos q3, if_pos (by omega)]
        · rw [if_neg q3, if_neg (by omega)]
      · rw [if_neg (by rw [if_neg q]; exact q2), if_neg q2, ih]
        by_cases q3 : k < n
        · rw [if_pos q3, if_pos (by omega)]
        · rw [if_neg q3, if_neg (by omega)]
theorem ro_b {k : Nat} (hk : k < 10) : (0 ≤ ro 122 k ∧ ro 122 k ≤ 1) ∧ (1 ≤ ro 123 k ∧ ro 123 k ≤ 99) ∧ (ro 122 k ≤ ro 121 k ∧ ro 121 k ≤ ro 123 k) := by
  have r : ∀ k : Fin 10, (0 ≤ ro 122 k ∧ ro 122 k ≤ 1) ∧ (1 ≤ ro 123 k ∧ ro 123 k ≤ 99) ∧ (ro 122 k ≤ ro 121 k ∧ ro 121 k ≤ ro 123 k) := by decide +kernel
  exact r ⟨k, hk⟩
theorem it_ge {f0 n : Nat} {T : Nat → Int} {L : Nat} (hn : f0 + n ≤ 10) : ∀ (r a : Nat) (tl : Nat → Bool) (w : Nat → Int), a ≤ L → a ≤ (imF f0 n T L r a tl w).1
  | 0, a, _, _, h => Nat.le_refl _
  | r + 1, a, tl, w, h => by
    have s0 := sk_le T L a
    unfold imF
    by_cases q0 : ixN f0 (lkG T L (skF T L a)) n 0 = -1
    · rw [if_pos q0]; exact s0
    · rw [if_neg q0]
      have pL := ix_L hn q0
      split
      · exact s0
      · have s1 := sk_le T L (skF T L a + 1)
        have nl := nm_L (T := T) 2 (skF T L (skF T L a + 1)) 0 false (sk_L pL)
        have np := nm_p (T := T) (L := L) 2 (skF T L (skF T L a + 1)) 0 false
        generalize nmF T L 2 (skF T L (skF T L a + 1)) 0 false = o at nl np ⊢
        obtain ⟨q, o⟩ := o
        have n1 : skF T L (skF T L a + 1) ≤ q := nl.1
        cases o with
        | none => show a ≤ q; omega
        | some v =>
          dsimp only
          split
          · rcases np v rfl with z | z
            · cases z
            · have : skF T L (skF T L a + 1) < q := z
              show a ≤ q - 1
              omega
          · have := it_ge (T := T) hn r q (tlS tl (ixN f0 (lkG T L (skF T L a)) n 0).toNat) (su w (ixN f0 (lkG T L (skF T L a)) n 0).toNat v) nl.2
            omega
theorem it_b {f0 n : Nat} {T : Nat → Int} {L : Nat} : ∀ (r a : Nat) (tl : Nat → Bool) (w : Nat → Int), (∀ k, k < n → ro 122 (f0 + k) ≤ w k ∧ w k ≤ ro 123 (f0 + k)) → ∀ w2, (imF f0 n T L r a tl w).2 = some w2 → ∀ k, k < n → ro 122 (f0 + k) ≤ w2 k ∧ w2 k ≤ ro 123 (f0 + k)
  | 0, a, _, _, _, w2, h => by cases h
  | r + 1, a, tl, w, hw, w2, h => by
    unfold imF at h
    by_cases q0 : ixN f0 (lkG T L (skF T L a)) n 0 = -1
    · rw [if_pos q0] at h
      have := Option.some.inj h
      rw [← this]
      exact hw
    · rw [if_neg q0] at h
      by_cases q1 : tl (ixN f0 (lkG T L (skF T L a)) n 0).toNat = true
      · rw [if_pos q1] at h; cases h
      · rw [if_neg q1] at h
        generalize nmF T L 2 (skF T L (skF T L a + 1)) 0 false = o at h
        obtain ⟨q, o⟩ := o
        cases o with
        | none => cases h
        | some v =>
          dsimp only at h
          by_cases q2 : v < ro 122 (f0 + (ixN f0 (lkG T L (skF T L a)) n 0).toNat) ∨ ro 123 (f0 + (ixN f0 (lkG T L (skF T L a)) n 0).toNat) < v
          · rw [if_pos q2] at h; cases h
          · rw [if_neg q2] at h
            refine it_b r q _ _ (fun k hk => ?_) w2 h
            unfold su
            by_cases z : k = (ixN f0 (lkG T L (skF T L a)) n 0).toNat
            · rw [if_pos z, z]; omega
            · rw [if_neg z]; exact hw k hk
