/-! Math -/
theorem mx32 {x y : Int} (hx : inI x) (hy : inI y) : (if Int32.ofInt x < Int32.ofInt y then Int32.ofInt y else Int32.ofInt x) = Int32.ofInt (mx x y) := by
  unfold mx
  by_cases q : x < y
  · rw [if_pos q, if_pos ((i32_lt hx hy).mpr q)]
  · rw [if_neg q, if_neg (fun z => q ((i32_lt hx hy).mp z))]
theorem mn32 {x y : Int} (hx : inI x) (hy : inI y) : (if Int32.ofInt y < Int32.ofInt x then Int32.ofInt y else Int32.ofInt x) = Int32.ofInt (mn x y) := by
  unfold mn
  by_cases q : y < x
  · rw [if_pos q, if_pos ((i32_lt hy hx).mpr q)]
  · rw [if_neg q, if_neg (fun z => q ((i32_lt hy hx).mp z))]
theorem ab32 {x : Int} (hx : inI x) : (if 0 ≤ Int32.ofInt x then Int32.ofInt x else 0 - Int32.ofInt x) = Int32.ofInt (ab x) := by
  have h0 : inI 0 := by unfold inI; omega
  have h1 : (0 ≤ Int32.ofInt x) ↔ 0 ≤ x := i32_le h0 hx
  unfold ab
  by_cases q : 0 ≤ x
  · rw [if_pos q, if_pos (h1.mpr q)]
  · rw [if_neg q, if_neg (fun z => q (h1.mp z)), show (0 : Int32) - Int32.ofInt x = Int32.ofInt (wI (0 - x)) from i32_sub 0 x, Int.zero_sub]
theorem mx64 {x y : Int} (hx : inL x) (hy : inL y) : (if Int64.ofInt y < Int64.ofInt x then Int64.ofInt x else Int64.ofInt y) = Int64.ofInt (mx x y) := by
  unfold mx
  by_cases q : y < x
  · rw [if_neg (show ¬ x < y by omega), if_pos ((i64_lt hy hx).mpr q)]
  · rw [if_neg (fun z => q ((i64_lt hy hx).mp z))]
    by_cases q2 : x < y
    · rw [if_pos q2]
    · rw [if_neg q2, show x = y by omega]
theorem mn64 {x y : Int} (hx : inL x) (hy : inL y) : (if Int64.ofInt y < Int64.ofInt x then Int64.ofInt y else Int64.ofInt x) = Int64.ofInt (mn x y) := by
  unfold mn
  by_cases q : y < x
  · rw [if_pos q, if_pos ((i64_lt hy hx).mpr q)]
  · rw [if_neg q, if_neg (fun z => q ((i64_lt hy hx).mp z))]
theorem ab64 {x : Int} (hx : inL x) : (if 0 < Int64.ofInt x then Int64.ofInt x else -Int64.ofInt x) = Int64.ofInt (abL x) := by
  have h0 : inL 0 := by unfold inL; omega
  have h1 : (0 < Int64.ofInt x) ↔ 0 < x := i64_lt h0 hx
  unfold abL
  by_cases q : 0 < x
  · rw [if_pos (show (0 : Int) ≤ x by omega), if_pos (h1.mpr q)]
  · rw [if_neg (fun z => q (h1.mp z)), i64_neg]
    by_cases q2 : 0 ≤ x
    · rw [if_pos q2, show x = 0 by omega]
      rfl
    · rw [if_neg q2]
theorem mxI {x y : Int} (hx : inI x) (hy : inI y) : inI (mx x y) := by unfold mx; split <;> assumption
theorem mnI {x y : Int} (hx : inI x) (hy : inI y) : inI (mn x y) := by unfold mn; split <;> assumption
theorem abI {x : Int} (hx : inI x) : inI (ab x) := by
  unfold ab
  split
  · exact hx
  · exact wI_in _
theorem mxL {x y : Int} (hx : inL x) (hy : inL y) : inL (mx x y) := by unfold mx; split <;> assumption
theorem mnL {x y : Int} (hx : inL x) (hy : inL y) : inL (mn x y) := by unfold mn; split <;> assumption
theorem abLL {x : Int} (hx : inL x) : inL (abL x) := by
  unfold abL
  split
  · exact hx
  · exact wL_in _
