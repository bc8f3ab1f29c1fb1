/-! numbers: ints and longs of the machine as whole numbers -/
theorem i32_to (x : Int) : (Int32.ofInt x).toInt = wI x := by
  rw [Int32.toInt_ofInt]
  show x.bmod 4294967296 = _
  unfold wI
  rw [Int.bmod_def]
  split <;> omega
theorem i64_to (x : Int) : (Int64.ofInt x).toInt = wL x := by
  rw [Int64.toInt_ofInt]
  show x.bmod 18446744073709551616 = _
  unfold wL
  rw [Int.bmod_def]
  split <;> omega
theorem wI_in (x : Int) : inI (wI x) := by unfold inI wI; omega
theorem wL_in (x : Int) : inL (wL x) := by unfold inL wL; omega
theorem wI_id {x : Int} (h : inI x) : wI x = x := by unfold inI at h; unfold wI; omega
theorem wL_id {x : Int} (h : inL x) : wL x = x := by unfold inL at h; unfold wL; omega
theorem i32_inj {a b : Int32} (h : a.toInt = b.toInt) : a = b := Int32.toInt_inj.mp h
theorem i64_inj {a b : Int64} (h : a.toInt = b.toInt) : a = b := Int64.toInt_inj.mp h
theorem i32_w (x : Int) : Int32.ofInt (wI x) = Int32.ofInt x := i32_inj (by rw [i32_to, i32_to, wI_id (wI_in x)])
theorem i64_w (x : Int) : Int64.ofInt (wL x) = Int64.ofInt x := i64_inj (by rw [i64_to, i64_to, wL_id (wL_in x)])
theorem i32_in (a : Int32) : inI a.toInt := by
  have h1 := Int32.le_toInt a
  have h2 := Int32.toInt_lt a
  unfold inI
  omega
theorem i64_in (a : Int64) : inL a.toInt := by
  have h1 := Int64.le_toInt a
  have h2 := Int64.toInt_lt a
  unfold inL
  omega
theorem i32_of (a : Int32) : Int32.ofInt a.toInt = a := i32_inj (by rw [i32_to, wI_id (i32_in a)])
theorem i64_of (a : Int64) : Int64.ofInt a.toInt = a := i64_inj (by rw [i64_to, wL_id (i64_in a)])
theorem i32_id {x : Int} (h : inI x) : (Int32.ofInt x).toInt = x := by rw [i32_to, wI_id h]
theorem i64_id {x : Int} (h : inL x) : (Int64.ofInt x).toInt = x := by rw [i64_to, wL_id h]
theorem i32_lt {x y : Int} (hx : inI x) (hy : inI y) : Int32.ofInt x < Int32.ofInt y ↔ x < y := by rw [Int32.lt_iff_toInt_lt, i32_id hx, i32_id hy]
theorem i32_le {x y : Int} (hx : inI x) (hy : inI y) : Int32.ofInt x ≤ Int32.ofInt y ↔ x ≤ y := by rw [Int32.le_iff_toInt_le, i32_id hx, i32_id hy]
theorem i32_eq {x y : Int} (hx : inI x) (hy : inI y) : Int32.ofInt x = Int32.ofInt y ↔ x = y := by rw [← Int32.toInt_inj, i32_id hx, i32_id hy]
theorem i64_lt {x y : Int} (hx : inL x) (hy : inL y) : Int64.ofInt x < Int64.ofInt y ↔ x < y := by rw [Int64.lt_iff_toInt_lt, i64_id hx, i64_id hy]
theorem i64_eq {x y : Int} (hx : inL x) (hy : inL y) : Int64.ofInt x = Int64.ofInt y ↔ x = y := by rw [← Int64.toInt_inj, i64_id hx, i64_id hy]
theorem i32_add (x y : Int) : Int32.ofInt x + Int32.ofInt y = Int32.ofInt (wI (x + y)) := by rw [i32_w, Int32.ofInt_add]
theorem i32_sub (x y : Int) : Int32.ofInt x - Int32.ofInt y = Int32.ofInt (wI (x - y)) := by rw [i32_w, Int32.ofInt_sub]
theorem i32_mul (x y : Int) : Int32.ofInt x * Int32.ofInt y = Int32.ofInt (wI (x * y)) := by rw [i32_w, Int32.ofInt_mul]
theorem i32_neg (x : Int) : -Int32.ofInt x = Int32.ofInt (wI (-x)) := by rw [i32_w, Int32.ofInt_neg]
theorem i64_add (x y : Int) : Int64.ofInt x + Int64.ofInt y = Int64.ofInt (wL (x + y)) := by rw [i64_w, Int64.ofInt_add]
theorem i64_sub (x y : Int) : Int64.ofInt x - Int64.ofInt y = Int64.ofInt (wL (x - y)) := by rw [i64_w, Int64.ofInt_sub]
theorem i64_mul (x y : Int) : Int64.ofInt x * Int64.ofInt y = Int64.ofInt (wL (x * y)) := by rw [i64_w, Int64.ofInt_mul]
theorem i64_neg (x : Int) : -Int64.ofInt x = Int64.ofInt (wL (-x)) := by rw [i64_w, Int64.ofInt_neg]
theorem i32_div {x y : Int} (hx : inI x) (hy : inI y) : Int32.ofInt x / Int32.ofInt y = Int32.ofInt (wI (x.tdiv y)) := by
  apply i32_inj
  rw [Int32.toInt_div, i32_w, i32_id hx, i32_id hy, Int32.toInt_ofInt]
theorem i64_div {x y : Int} (hx : inL x) (hy : inL y) : Int64.ofInt x / Int64.ofInt y = Int64.ofInt (wL (x.tdiv y)) := by
  apply i64_inj
  rw [Int64.toInt_div, i64_w, i64_id hx, i64_id hy, Int64.toInt_ofInt]
theorem i32_rem {x y : Int} (hx : inI x) (hy : inI y) : Int32.ofInt x - Int32.ofInt x / Int32.ofInt y * Int32.ofInt y = Int32.ofInt (x.tmod y) := by
  rw [i32_div hx hy, i32_w, ← Int32.ofInt_mul, ← Int32.ofInt_sub]
  congr 1
  have := Int.tmod_add_mul_tdiv x y
  have e : x.tdiv y * y = y * x.tdiv y := Int.mul_comm _ _
  omega
theorem i64_rem {x y : Int} (hx : inL x) (hy : inL y) : Int64.ofInt x - Int64.ofInt x / Int64.ofInt y * Int64.ofInt y = Int64.ofInt (x.tmod y) := by
  rw [i64_div hx hy, i64_w, ← Int64.ofInt_mul, ← Int64.ofInt_sub]
  congr 1
  have := Int.tmod_add_mul_tdiv x y
  have e : x.tdiv y * y = y * x.tdiv y := Int.mul_comm _ _
  omega
theorem tmod_in {x y : Int} {a b : Int} (ha : a ≤ 0) (hb : 0 ≤ b) (h : a ≤ x ∧ x ≤ b) : a ≤ x.tmod y ∧ x.tmod y ≤ b := by
  match x, y, h with
  | .ofNat m, .ofNat n, h =>
    have h1 : (m % n : Nat) ≤ m := Nat.mod_le m n
    have e : (Int.ofNat m).tmod (Int.ofNat n) = ((m % n : Nat) : Int) := rfl
    have e2 : Int.ofNat m = (m : Int) := rfl
    omega
  | .ofNat m, .negSucc n, h =>
    have h1 : (m % (n + 1) : Nat) ≤ m := Nat.mod_le m (n + 1)
    have e : (Int.ofNat m).tmod (Int.negSucc n) = ((m % (n + 1) : Nat) : Int) := rfl
    have e2 : Int.ofNat m = (m : Int) := rfl
    omega
  | .negSucc m, .ofNat n, h =>
    have h1 : ((m + 1) % n : Nat) ≤ m + 1 := Nat.mod_le (m + 1) n
    have e : (Int.negSucc m).tmod (Int.ofNat n) = -(((m + 1) % n : Nat) : Int) := rfl
    have e2 : Int.negSucc m = -((m : Int) + 1) := Int.negSucc_eq m
    omega
  | .negSucc m, .negSucc n, h =>
    have h1 : ((m + 1) % (n + 1) : Nat) ≤ m + 1 := Nat.mod_le (m + 1) (n + 1)
    have e : (Int.negSucc m).tmod (Int.negSucc n) = -(((m + 1) % (n + 1) : Nat) : Int) := rfl
    have e2 : Int.negSucc m = -((m : Int) + 1) := Int.negSucc_eq m
    omega
theorem i32_i64 {x : Int} (hx : inI x) : (Int32.ofInt x).toInt64 = Int64.ofInt x := by
  apply i64_inj
  rw [Int32.toInt_toInt64, i32_id hx, i64_id (by unfold inI at hx; unfold inL; omega)]
theorem i64_i32 (x : Int) : (Int64.ofInt x).toInt32 = Int32.ofInt (wI x) := by
  rw [i32_w, Int64.toInt32_ofInt]
theorem inI_inL {x : Int} (h : inI x) : inL x := by unfold inI at h; unfold inL; omega
theorem xI_in (f : Int32 → Int32 → Int32) (x y : Int) : inI (xI f x y) := i32_in _
theorem xL_in (f : Int64 → Int64 → Int64) (x y : Int) : inL (xL f x y) := i64_in _
theorem xI_of (f : Int32 → Int32 → Int32) (x y : Int) : Int32.ofInt (xI f x y) = f (Int32.ofInt x) (Int32.ofInt y) := i32_of _
theorem xL_of (f : Int64 → Int64 → Int64) (x y : Int) : Int64.ofInt (xL f x y) = f (Int64.ofInt x) (Int64.ofInt y) := i64_of _
theorem toB_of (x : Int) : Int32.ofInt (toB x) = (Int32.ofInt x).toInt8.toInt32 := i32_of _
theorem toC_of (x : Int) : Int32.ofInt (toC x) = ((Int32.ofInt x).toUInt32 % 65536).toInt32 := i32_of _
theorem clamp_nat {x : Int} (h : inI x) : (Int32.ofInt x).toNatClampNeg = x.toNat := by
  show (Int32.ofInt x).toInt.toNat = x.toNat
  rw [i32_id h]
theorem inb_in {i : Int} {n : Nat} (h : inI i) (hb : inb i n = true) : vp_in (Int32.ofInt i) n := by
  have h1 : 0 ≤ i ∧ i < n := by simpa [inb] using hb
  rw [vp_in_iff, i32_id h]
  exact h1
theorem cmpL_of {x y : Int} (hx : inL x) (hy : inL y) : Int32.ofInt (cmpL x y) = lg_cmp (Int64.ofInt x) (Int64.ofInt y) := by
  unfold cmpL lg_cmp
  have h1 := i64_lt hy hx
  have h2 := i64_eq hx hy
  by_cases a : x < y
  · rw [if_pos a, if_neg (fun q => by have := h1.mp q; omega), if_neg (fun q => by have := h2.mp q; omega)]
    rfl
  · by_cases b : x = y
    · rw [if_neg a, if_pos b, if_neg (fun q => by have := h1.mp q; omega), if_pos (h2.mpr b)]
      rfl
    · rw [if_neg a, if_neg b, if_pos (h1.mpr (by omega))]
      rfl
theorem cmpL_in (x y : Int) : inI (cmpL x y) := by
  unfold cmpL inI
  split
  · omega
  · split <;> omega
