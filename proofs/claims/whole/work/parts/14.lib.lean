/-! plain rows for the equations -/
/-- 1 or 0 -/
def bi (c : Prop) [Decidable c] : Int := if c then 1 else 0
theorem bi_t {c : Prop} [Decidable c] (h : c) : bi c = 1 := if_pos h
theorem bi_f {c : Prop} [Decidable c] (h : ¬ c) : bi c = 0 := if_neg h
theorem bi_0 {c : Prop} [Decidable c] : (bi c = 0) = ¬ c := by
  unfold bi
  by_cases h : c <;> simp [h]
theorem bi_1 {c : Prop} [Decidable c] : (bi c = 1) = c := by
  unfold bi
  by_cases h : c <;> simp [h]
theorem bi_01 (c : Prop) [Decidable c] : bi c = 0 ∨ bi c = 1 := by
  unfold bi
  by_cases h : c <;> simp [h]
theorem bi_ne {c : Prop} [Decidable c] : (¬ bi c = 0) = c := by
  unfold bi
  by_cases h : c <;> simp [h]
theorem nn_ {c : Prop} [Decidable c] : (¬ ¬ c) = c := by
  by_cases h : c <;> simp [h]
theorem cmp_lt (x y : Int) : (cmpL x y < 0) = (x < y) := by
  unfold cmpL
  by_cases h : x < y
  · simp [h]
  · by_cases h2 : x = y <;> simp [h, h2]
theorem cmp_gt (x y : Int) : (0 < cmpL x y) = (y < x) := by
  unfold cmpL
  by_cases h : x < y
  · simp [h]; omega
  · by_cases h2 : x = y
    · simp [h2]
    · simp [h, h2]; omega
theorem cmp_le (x y : Int) : (cmpL x y ≤ 0) = (x ≤ y) := by
  unfold cmpL
  by_cases h : x < y
  · simp [h]; omega
  · by_cases h2 : x = y
    · simp [h2]
    · simp [h, h2]; omega
theorem cmp_ge (x y : Int) : (0 ≤ cmpL x y) = (y ≤ x) := by
  unfold cmpL
  by_cases h : x < y
  · simp [h]
  · by_cases h2 : x = y
    · simp [h2]
    · simp [h, h2]; omega
theorem cmp_eq (x y : Int) : (cmpL x y = 0) = (x = y) := by
  unfold cmpL
  by_cases h : x < y
  · simp [h]; omega
  · by_cases h2 : x = y
    · simp [h2]
    · simp [h, h2]
/-- an if that ends in 1 or 0 -/
theorem if_bi {c : Prop} [Decidable c] (h : MH) : (if c then some (some (Sum.inl 1), h) else some (some (Sum.inl 0), h) : Option (Option MV × MH)) = some (some (.inl (bi c)), h) := by
  unfold bi
  by_cases q : c <;> simp [q]
theorem if_bi2 {c : Prop} [Decidable c] (h : MH) : (if c then some (some (Sum.inl 0), h) else some (some (Sum.inl 1), h) : Option (Option MV × MH)) = some (some (.inl (bi (¬ c))), h) := by
  unfold bi
  by_cases q : c <;> simp [q]
theorem if_bi3 {c e : Prop} [Decidable c] [Decidable e] (h : MH) : (if c then some (some (Sum.inl 0), h) else some (some (Sum.inl (bi e)), h) : Option (Option MV × MH)) = some (some (.inl (bi (¬ c ∧ e))), h) := by
  unfold bi
  by_cases q : c <;> by_cases q2 : e <;> simp [q, q2]
theorem if_bi4 {c e : Prop} [Decidable c] [Decidable e] (h : MH) : (if c then some (some (Sum.inl (bi e)), h) else some (some (Sum.inl 0), h) : Option (Option MV × MH)) = some (some (.inl (bi (c ∧ e))), h) := by
  unfold bi
  by_cases q : c <;> by_cases q2 : e <;> simp [q, q2]
theorem if_bi5 {c e : Prop} [Decidable c] [Decidable e] (h : MH) : (if c then some (some (Sum.inl 1), h) else some (some (Sum.inl (bi e)), h) : Option (Option MV × MH)) = some (some (.inl (bi (c ∨ e))), h) := by
  unfold bi
  by_cases q : c <;> by_cases q2 : e <;> simp [q, q2]
theorem up_s (h : MH) (a j : Nat) (v : Int) : up h a j v a j = v := by simp [up]
theorem up_i {h : MH} {a j i : Nat} {v : Int} (e : i ≠ j) : up h a j v a i = h a i := by simp [up, e]
theorem up_a {h : MH} {a b j i : Nat} {v : Int} (e : b ≠ a) : up h a j v b i = h b i := by simp [up, e]
/-! the shortest methods, closed -/
theorem e_isTold (d : Nat) (h : MH) : Run d 61 0 [.inr (.inr (.inl 2))] [] h = some (some (.inl (bi (0 < h 2 3))), h) := by
  rw [q61_0, if_bi2]
  congr 4
  simp
theorem e_hasFort (d : Nat) (x : Int) (h : MH) : Run d 20 0 [.inr (.inr (.inl 2)), .inl x] [] h = some (some (.inl (bi (0 ≤ x ∧ x < h 2 3))), h) := by
  rw [q20_0, if_bi2, if_bi3]
  congr 4
  simp
theorem e_hasCarrier (d : Nat) (x : Int) (h : MH) : Run d 72 0 [.inr (.inr (.inl 2)), .inl x] [] h = some (some (.inl (bi (0 ≤ x ∧ x < h 2 4))), h) := by
  rw [q72_0, if_bi2, if_bi3]
  congr 4
  simp
theorem e_isPowder (d : Nat) (x : Int) (h : MH) : Run d 73 0 [.inl x] [] h = some (some (.inl (bi (1 ≤ x ∧ x ≤ 20))), h) := by
  rw [q73_0, if_bi2, if_bi3]
  congr 4
  simp
theorem e_isWay (d : Nat) (x : Int) (h : MH) : Run d 74 0 [.inl x] [] h = some (some (.inl (bi (x = 0 ∨ x = 1))), h) := by
  rw [q74_0, if_bi2, if_bi5]
  congr 4
  simp
theorem e_isNews (d : Nat) (x : Int) (h : MH) : Run d 92 0 [.inl x] [] h = some (some (.inl (bi (0 ≤ x ∧ x < 6))), h) := by
  rw [q92_0, if_bi2, if_bi3]
  congr 4
  simp
theorem m_isIn (d : Nat) (x y z : Int) (h : MH) : Run d 183 0 [.inr (.inl x), vU, .inr (.inl y), vU, .inr (.inl z), vU] [] h = some (some (.inl (bi (y ≤ x ∧ x ≤ z))), h) := by
  rw [q183_0]
  simp only [cmp_lt, cmp_gt]
  rw [if_bi2, if_bi3]
  congr 4
  simp
theorem m_isFort (d : Nat) (x : Int) (h : MH) : Run d 220 0 [.inr (.inr (.inl 97)), .inl x] [] h = some (some (.inl (bi (0 ≤ x ∧ x < h 97 26))), h) := by
  rw [q220_0, if_bi2, if_bi3]
  congr 4
  simp
theorem m_isCarrier (d : Nat) (x : Int) (h : MH) : Run d 222 0 [.inr (.inr (.inl 97)), .inl x] [] h = some (some (.inl (bi (0 ≤ x ∧ x < h 97 27))), h) := by
  rw [q222_0, if_bi2, if_bi3]
  congr 4
  simp
