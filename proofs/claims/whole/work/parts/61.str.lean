/-! strings that are read only -/
def chF (v k : Nat) : Int := toC (iAnd (ro v k) 255)
theorem q_ix (d : Nat) (h : MH) {k n : Int} (h0 : 0 ≤ k) (h1 : k < n) : Run (d + 2) 14 0 [.inl k, .inl n] [] h = some (none, h) := by
  rw [q14_0, q15_0, if_neg (by omega), if_pos h1, cI_some]
theorem s_at126 (d : Nat) (h : MH) {k : Nat} (hk : k < 1) : Run (d + 4) 11 0 [vR 126, .inl (k : Int)] [] h = some (some (.inl (chF 133 k)), h) := by
  have r : ∀ k : Fin 1, 0 ≤ chF 133 k ∧ chF 133 k ≤ 65535 := by decide +kernel
  have r1 : 0 ≤ toC (iAnd (ro 133 k) 255) ∧ toC (iAnd (ro 133 k) 255) ≤ 65535 := r ⟨k, hk⟩
  rw [q11_0, q12_0, cI_some, if_neg (by omega), q13_0, q_ix d h (by omega) (by omega), cV_some, if_pos (by omega), show ((k : Nat) : Int).toNat = k by omega, if_pos r1, cI_some, if_pos r1]
  rfl
theorem s_at130 (d : Nat) (h : MH) {k : Nat} (hk : k < 4) : Run (d + 4) 11 0 [vR 130, .inl (k : Int)] [] h = some (some (.inl (chF 137 k)), h) := by
  have r : ∀ k : Fin 4, 0 ≤ chF 137 k ∧ chF 137 k ≤ 65535 := by decide +kernel
  have r1 : 0 ≤ toC (iAnd (ro 137 k) 255) ∧ toC (iAnd (ro 137 k) 255) ≤ 65535 := r ⟨k, hk⟩
  rw [q11_0_1, q12_0_1, cI_some, if_neg (by omega), q13_0_1, q_ix d h (by omega) (by omega), cV_some, if_pos (by omega), show ((k : Nat) : Int).toNat = k by omega, if_pos r1, cI_some, if_pos r1]
  rfl
theorem s_at124 (d : Nat) (h : MH) {k : Nat} (hk : k < 10) : Run (d + 4) 11 0 [vR 124, .inl (k : Int)] [] h = some (some (.inl (chF 131 k)), h) := by
  have r : ∀ k : Fin 10, 0 ≤ chF 131 k ∧ chF 131 k ≤ 65535 := by decide +kernel
  have r1 : 0 ≤ toC (iAnd (ro 131 k) 255) ∧ toC (iAnd (ro 131 k) 255) ≤ 65535 := r ⟨k, hk⟩
  rw [q11_0_2, q12_0_3, cI_some, if_neg (by omega), q13_0_2, q_ix d h (by omega) (by omega), cV_some, if_pos (by omega), show ((k : Nat) : Int).toNat = k by omega, if_pos r1, cI_some, if_pos r1]
  rfl
theorem s_at125 (d : Nat) (h : MH) {k : Nat} (hk : k < 6) : Run (d + 4) 11 0 [vR 125, .inl (k : Int)] [] h = some (some (.inl (chF 132 k)), h) := by
  have r : ∀ k : Fin 6, 0 ≤ chF 132 k ∧ chF 132 k ≤ 65535 := by decide +kernel
  have r1 : 0 ≤ toC (iAnd (ro 132 k) 255) ∧ toC (iAnd (ro 132 k) 255) ≤ 65535 := r ⟨k, hk⟩
  rw [q11_0_3, q12_0_2, cI_some, if_neg (by omega), q13_0_3, q_ix d h (by omega) (by omega), cV_some, if_pos (by omega), show ((k : Nat) : Int).toNat = k by omega, if_pos r1, cI_some, if_pos r1]
  rfl
theorem s_at129 (d : Nat) (h : MH) {k : Nat} (hk : k < 3) : Run (d + 4) 11 0 [vR 129, .inl (k : Int)] [] h = some (some (.inl (chF 136 k)), h) := by
  have r : ∀ k : Fin 3, 0 ≤ chF 136 k ∧ chF 136 k ≤ 65535 := by decide +kernel
  have r1 : 0 ≤ toC (iAnd (ro 136 k) 255) ∧ toC (iAnd (ro 136 k) 255) ≤ 65535 := r ⟨k, hk⟩
  rw [q11_0_4, q12_0_4, cI_some, if_neg (by omega), q13_0_4, q_ix d h (by omega) (by omega), cV_some, if_pos (by omega), show ((k : Nat) : Int).toNat = k by omega, if_pos r1, cI_some, if_pos r1]
  rfl
theorem s_at128 (d : Nat) (h : MH) {k : Nat} (hk : k < 3) : Run (d + 4) 11 0 [vR 128, .inl (k : Int)] [] h = some (some (.inl (chF 135 k)), h) := by
  have r : ∀ k : Fin 3, 0 ≤ chF 135 k ∧ chF 135 k ≤ 65535 := by decide +kernel
  have r1 : 0 ≤ toC (iAnd (ro 135 k) 255) ∧ toC (iAnd (ro 135 k) 255) ≤ 65535 := r ⟨k, hk⟩
  rw [q11_0_5, q12_0_5, cI_some, if_neg (by omega), q13_0_5, q_ix d h (by omega) (by omega), cV_some, if_pos (by omega), show ((k : Nat) : Int).toNat = k by omega, if_pos r1, cI_some, if_pos r1]
  rfl
theorem s_at127 (d : Nat) (h : MH) {k : Nat} (hk : k < 4) : Run (d + 4) 11 0 [vR 127, .inl (k : Int)] [] h = some (some (.inl (chF 134 k)), h) := by
  have r : ∀ k : Fin 4, 0 ≤ chF 134 k ∧ chF 134 k ≤ 65535 := by decide +kernel
  have r1 : 0 ≤ toC (iAnd (ro 134 k) 255) ∧ toC (iAnd (ro 134 k) 255) ≤ 65535 := r ⟨k, hk⟩
  rw [q11_0_6, q12_0_6, cI_some, if_neg (by omega), q13_0_6, q_ix d h (by omega) (by omega), cV_some, if_pos (by omega), show ((k : Nat) : Int).toNat = k by omega, if_pos r1, cI_some, if_pos r1]
  rfl
theorem s_len126 (d : Nat) (h : MH) : Run (d + 1) 28 0 [vR 126] [] h = some (some (.inl 1), h) := by
  have e : iShr 1 0 = 1 := by decide +kernel
  rw [q28_0, q29_0, cI_some, e]
theorem s_len130 (d : Nat) (h : MH) : Run (d + 1) 28 0 [vR 130] [] h = some (some (.inl 4), h) := by
  have e : iShr 4 0 = 4 := by decide +kernel
  rw [q28_0_1, q29_0_1, cI_some, e]
theorem s_len125 (d : Nat) (h : MH) : Run (d + 1) 28 0 [vR 125] [] h = some (some (.inl 6), h) := by
  have e : iShr 6 0 = 6 := by decide +kernel
  rw [q28_0_5, q29_0_5, cI_some, e]
theorem s_len129 (d : Nat) (h : MH) : Run (d + 1) 28 0 [vR 129] [] h = some (some (.inl 3), h) := by
  have e : iShr 3 0 = 3 := by decide +kernel
  rw [q28_0_2, q29_0_2, cI_some, e]
theorem s_len128 (d : Nat) (h : MH) : Run (d + 1) 28 0 [vR 128] [] h = some (some (.inl 3), h) := by
  have e : iShr 3 0 = 3 := by decide +kernel
  rw [q28_0_3, q29_0_3, cI_some, e]
theorem s_len127 (d : Nat) (h : MH) : Run (d + 1) 28 0 [vR 127] [] h = some (some (.inl 4), h) := by
  have e : iShr 4 0 = 4 := by decide +kernel
  rw [q28_0_4, q29_0_4, cI_some, e]
/-- where the first of them is x -/
def fiN (v n : Nat) (x : Int) : Nat → Nat → Int
  | 0, _ => -1
  | r + 1, k => if chF v k = x then (k : Int) else fiN v n x r (k + 1)
theorem m_spot130 (d : Nat) (h : MH) (x : Int) : Run (d + 5) 191 0 [vR 130, .inl x, vU] [] h = some (some (.inl (fiN 137 4 x 4 0)), h) := by
  have key : ∀ (r k : Nat), k + r = 4 → Run (d + 5) 191 2 [vR 130, .inl x, .inl (k : Int)] [] h = some (some (.inl (fiN 137 4 x r k)), h) := by
    intro r
    induction r with
    | zero =>
      intro k hk
      rw [q191_2, s_len130, cI_some, if_pos (by omega)]
      rfl
    | succ r ih =>
      intro k hk
      rw [q191_2, s_len130, cI_some, if_neg (by omega), s_at130 d h (by omega), cI_some]
      have ef : fiN 137 4 x (r + 1) k = if chF 137 k = x then (k : Int) else fiN 137 4 x r (k + 1) := rfl
      rw [ef]
      by_cases q : chF 137 k = x
      · rw [if_neg (fun z => z q), if_pos q]
      · rw [if_pos q, if_neg q, wI_ok (by omega) (by omega), ← ih (k + 1) (by omega)]
        rfl
  rw [q191_0]
  exact key 4 0 rfl
theorem m_spot129 (d : Nat) (h : MH) (x : Int) : Run (d + 5) 191 0 [vR 129, .inl x, vU] [] h = some (some (.inl (fiN 136 3 x 3 0)), h) := by
  have key : ∀ (r k : Nat), k + r = 3 → Run (d + 5) 191 2 [vR 129, .inl x, .inl (k : Int)] [] h = some (some (.inl (fiN 136 3 x r k)), h) := by
    intro r
    induction r with
    | zero =>
      intro k hk
      rw [q191_2_1, s_len129, cI_some, if_pos (by omega)]
      rfl
    | succ r ih =>
      intro k hk
      rw [q191_2_1, s_len129, cI_some, if_neg (by omega), s_at129 d h (by omega), cI_some]
      have ef : fiN 136 3 x (r + 1) k = if chF 136 k = x then (k : Int) else fiN 136 3 x r (k + 1) := rfl
      rw [ef]
      by_cases q : chF 136 k = x
      · rw [if_neg (fun z => z q), if_pos q]
      · rw [if_pos q, if_neg q, wI_ok (by omega) (by omega), ← ih (k + 1) (by omega)]
        rfl
  rw [q191_0_1]
  exact key 3 0 rfl
theorem m_spot128 (d : Nat) (h : MH) (x : Int) : Run (d + 5) 191 0 [vR 128, .inl x, vU] [] h = some (some (.inl (fiN 135 3 x 3 0)), h) := by
  have key : ∀ (r k : Nat), k + r = 3 → Run (d + 5) 191 2 [vR 128, .inl x, .inl (k : Int)] [] h = some (some (.inl (fiN 135 3 x r k)), h) := by
    intro r
    induction r with
    | zero =>
      intro k hk
      rw [q191_2_2, s_len128, cI_some, if_pos (by omega)]
      rfl
    | succ r ih =>
      intro k hk
      rw [q191_2_2, s_len128, cI_some, if_neg (by omega), s_at128 d h (by omega), cI_some]
      have ef : fiN 135 3 x (r + 1) k = if chF 135 k = x then (k : Int) else fiN 135 3 x r (k + 1) := rfl
      rw [ef]
      by_cases q : chF 135 k = x
      · rw [if_neg (fun z => z q), if_pos q]
      · rw [if_pos q, if_neg q, wI_ok (by omega) (by omega), ← ih (k + 1) (by omega)]
        rfl
  rw [q191_0_2]
  exact key 3 0 rfl
theorem m_spot127 (d : Nat) (h : MH) (x : Int) : Run (d + 5) 191 0 [vR 127, .inl x, vU] [] h = some (some (.inl (fiN 134 4 x 4 0)), h) := by
  have key : ∀ (r k : Nat), k + r = 4 → Run (d + 5) 191 2 [vR 127, .inl x, .inl (k : Int)] [] h = some (some (.inl (fiN 134 4 x r k)), h) := by
    intro r
    induction r with
    | zero =>
      intro k hk
      rw [q191_2_3, s_len127, cI_some, if_pos (by omega)]
      rfl
    | succ r ih =>
      intro k hk
      rw [q191_2_3, s_len127, cI_some, if_neg (by omega), s_at127 d h (by omega), cI_some]
      have ef : fiN 134 4 x (r + 1) k = if chF 134 k = x then (k : Int) else fiN 134 4 x r (k + 1) := rfl
      rw [ef]
      by_cases q : chF 134 k = x
      · rw [if_neg (fun z => z q), if_pos q]
      · rw [if_pos q, if_neg q, wI_ok (by omega) (by omega), ← ih (k + 1) (by omega)]
        rfl
  rw [q191_0_3]
  exact key 4 0 rfl
theorem fi130 (x : Int) : fiN 137 4 x 4 0 = if x = 115 then 0 else if x = 104 then 1 else if x = 119 then 2 else if x = 110 then 3 else -1 := by
  have c0 : chF 137 0 = 115 := by decide +kernel
  have c1 : chF 137 1 = 104 := by decide +kernel
  have c2 : chF 137 2 = 119 := by decide +kernel
  have c3 : chF 137 3 = 110 := by decide +kernel
  simp only [fiN, c0, c1, c2, c3, Nat.zero_add, Nat.reduceAdd, eq_comm (b := x)]
  rfl
theorem fi127 (x : Int) : fiN 134 4 x 4 0 = if x = 119 then 0 else if x = 100 then 1 else if x = 112 then 2 else if x = 98 then 3 else -1 := by
  have c0 : chF 134 0 = 119 := by decide +kernel
  have c1 : chF 134 1 = 100 := by decide +kernel
  have c2 : chF 134 2 = 112 := by decide +kernel
  have c3 : chF 134 3 = 98 := by decide +kernel
  simp only [fiN, c0, c1, c2, c3, Nat.zero_add, Nat.reduceAdd, eq_comm (b := x)]
  rfl
theorem fi128 (x : Int) : fiN 135 3 x 3 0 = if x = 120 then 0 else if x = 104 then 1 else if x = 121 then 2 else -1 := by
  have c0 : chF 135 0 = 120 := by decide +kernel
  have c1 : chF 135 1 = 104 := by decide +kernel
  have c2 : chF 135 2 = 121 := by decide +kernel
  simp only [fiN, c0, c1, c2, Nat.zero_add, Nat.reduceAdd, eq_comm (b := x)]
  rfl
theorem fi129 (x : Int) : fiN 136 3 x 3 0 = if x = 109 then 0 else if x = 110 then 1 else if x = 102 then 2 else -1 := by
  have c0 : chF 136 0 = 109 := by decide +kernel
  have c1 : chF 136 1 = 110 := by decide +kernel
  have c2 : chF 136 2 = 102 := by decide +kernel
  simp only [fiN, c0, c1, c2, Nat.zero_add, Nat.reduceAdd, eq_comm (b := x)]
  rfl
