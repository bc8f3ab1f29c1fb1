/-! the start: what the constructors have made (written by wip/whole/genst.py) -/
def h00 (sc : Nat → Int) (L : Nat) : MH := fun a => if a = 138 then sc else if a = 998 then (fun _ => (L : Int)) else if a = 6 then (fun j => if j = 2 then (-1 : Int) else 0) else if a = 97 then (fun j => if j = 34 then (-1 : Int) else if j = 5 then (98 : Int) else 0) else fun _ => 0
def stW (x m o : Nat) (u u2 : US) (v T : Nat → Nat) : va_W := (([] ++ ((x, .inr (11, ct_CannonPost_fs v u)) :: ct_CannonPost_nw T v u)) ++ ((m, .inr (12, ct_CannonPostModel_fs v u2)) :: ct_CannonPostModel_nw T v u2)) ++ [(o, .inl (T 3, 1, .inr (.inl (fun _ => Int64.ofInt 0))))]
def adW (x m o : Nat) (u u2 : US) (v : Nat → Nat) : Nat → Nat := fun a => if 25 ≤ a ∧ a < 29 then u.2 0 (a - 25) else if 33 ≤ a ∧ a < 37 then u.2 1 (a - 33) else if 51 ≤ a ∧ a < 91 then u.2 2 (a - 51) else if a < 121 then ([x, u.1 0, u.1 2, u.1 6, u.1 7, u.1 11, u.1 13, u.1 18, u.1 22, u.1 25, u.1 31, u.1 37, u.1 39, u.1 42, u.1 45, u.1 1, u.1 3, u.1 4, u.1 5, u.1 8, u.1 9, u.1 10, u.1 12, u.1 14, u.1 15, 0, 0, 0, 0, u.1 16, u.1 17, u.1 19, u.1 20, 0, 0, 0, 0, u.1 21, u.1 23, u.1 24, u.1 26, u.1 27, u.1 28, u.1 29, u.1 30, u.1 32, u.1 33, u.1 34, u.1 35, u.1 36, u.1 38, 0, 0, 0, 0, 0, 0, 0, 0, 0, 0, 0, 0, 0, 0, 0, 0, 0, 0, 0, 0, 0, 0, 0, 0, 0, 0, 0, 0, 0, 0, 0, 0, 0, 0, 0, 0, 0, 0, 0, 0, u.1 40, u.1 41, u.1 43, u.1 44, u.1 46, u.1 47, m, u2.1 0, u2.1 1, u2.1 2, u2.1 3, u2.1 4, u2.1 5, u2.1 6, u2.1 7, u2.1 8, u2.1 9, u2.1 10, u2.1 11, u2.1 12, u2.1 13, u2.1 14, u2.1 15, u2.1 16, u2.1 17, u2.1 18, u2.1 19, u2.1 20, u2.1 21, o] : List Nat).getD a 0 else v a
def wst (x m o : Nat) (u u2 : US) (v T : Nat → Nat) (z : Value) (D : va_G) (sc : Nat → Int) (L : Nat) : WP := (adW x m o u u2 v, z, D, T, sc, L)
def sgL : List Nat := [0, 1, 3, 7, 8, 12, 14, 23, 31, 34, 40, 46, 88, 91, 94, 2, 4, 5, 6, 9, 10, 11, 13, 15, 16, 17, 18, 19, 20, 21, 22, 24, 25, 26, 27, 28, 29, 30, 32, 33, 35, 36, 37, 38, 39, 41, 42, 43, 44, 45, 47, 48, 49, 50, 51, 52, 53, 54, 55, 56, 57, 58, 59, 60, 61, 62, 63, 64, 65, 66, 67, 68, 69, 70, 71, 72, 73, 74, 75, 76, 77, 78, 79, 80, 81, 82, 83, 84, 85, 86, 87, 89, 90, 92, 93, 95, 96, 97, 98, 99, 100, 101, 102, 103, 104, 105, 106, 107, 108, 109, 110, 111, 112, 113, 114, 115, 116, 117, 118, 119, 120]
theorem sg_inj : ∀ i, i < 121 → ∀ j, j < 121 → sgL.getD i 0 = sgL.getD j 0 → i = j := by decide +kernel
section START
variable (x m o : Nat) (u u2 : US) (v T : Nat → Nat) (z : Value) (D : va_G) (sc : Nat → Int) (L : Nat)
set_option maxRecDepth 20000 in
theorem st0_0 : (stW x m o u u2 v T)[0]? = some ((wst x m o u u2 v T z D sc L).1 0, cE (wst x m o u u2 v T z D sc L) (h00 sc L 0) 0) := rfl
set_option maxRecDepth 20000 in
theorem st0_1 : (stW x m o u u2 v T)[1]? = some ((wst x m o u u2 v T z D sc L).1 1, cE (wst x m o u u2 v T z D sc L) (h00 sc L 1) 1) := rfl
set_option maxRecDepth 20000 in
theorem st0_2 : (stW x m o u u2 v T)[3]? = some ((wst x m o u u2 v T z D sc L).1 2, cE (wst x m o u u2 v T z D sc L) (h00 sc L 2) 2) := rfl
set_option maxRecDepth 20000 in
theorem st0_3 : (stW x m o u u2 v T)[7]? = some ((wst x m o u u2 v T z D sc L).1 3, cE (wst x m o u u2 v T z D sc L) (h00 sc L 3) 3) := rfl
set_option maxRecDepth 20000 in
theorem st0_4 : (stW x m o u u2 v T)[8]? = some ((wst x m o u u2 v T z D sc L).1 4, cE (wst x m o u u2 v T z D sc L) (h00 sc L 4) 4) := rfl
set_option maxRecDepth 20000 in
theorem st0_5 : (stW x m o u u2 v T)[12]? = some ((wst x m o u u2 v T z D sc L).1 5, cE (wst x m o u u2 v T z D sc L) (h00 sc L 5) 5) := rfl
set_option maxRecDepth 20000 in
theorem st0_6 : (stW x m o u u2 v T)[14]? = some ((wst x m o u u2 v T z D sc L).1 6, cE (wst x m o u u2 v T z D sc L) (h00 sc L 6) 6) := rfl
set_option maxRecDepth 20000 in
theorem st0_7 : (stW x m o u u2 v T)[23]? = some ((wst x m o u u2 v T z D sc L).1 7, cE (wst x m o u u2 v T z D sc L) (h00 sc L 7) 7) := rfl
set_option maxRecDepth 20000 in
theorem st0_8 : (stW x m o u u2 v T)[31]? = some ((wst x m o u u2 v T z D sc L).1 8, cE (wst x m o u u2 v T z D sc L) (h00 sc L 8) 8) := rfl
set_option maxRecDepth 20000 in
theorem st0_9 : (stW x m o u u2 v T)[34]? = some ((wst x m o u u2 v T z D sc L).1 9, cE (wst x m o u u2 v T z D sc L) (h00 sc L 9) 9) := rfl
set_option maxRecDepth 20000 in
theorem st0_10 : (stW x m o u u2 v T)[40]? = some ((wst x m o u u2 v T z D sc L).1 10, cE (wst x m o u u2 v T z D sc L) (h00 sc L 10) 10) := rfl
set_option maxRecDepth 20000 in
theorem st0_11 : (stW x m o u u2 v T)[46]? = some ((wst x m o u u2 v T z D sc L).1 11, cE (wst x m o u u2 v T z D sc L) (h00 sc L 11) 11) := rfl
set_option maxRecDepth 20000 in
theorem st0_12 : (stW x m o u u2 v T)[88]? = some ((wst x m o u u2 v T z D sc L).1 12, cE (wst x m o u u2 v T z D sc L) (h00 sc L 12) 12) := rfl
set_option maxRecDepth 20000 in
theorem st0_13 : (stW x m o u u2 v T)[91]? = some ((wst x m o u u2 v T z D sc L).1 13, cE (wst x m o u u2 v T z D sc L) (h00 sc L 13) 13) := rfl
set_option maxRecDepth 20000 in
theorem st0_14 : (stW x m o u u2 v T)[94]? = some ((wst x m o u u2 v T z D sc L).1 14, cE (wst x m o u u2 v T z D sc L) (h00 sc L 14) 14) := rfl
set_option maxRecDepth 20000 in
theorem st0_15 : (stW x m o u u2 v T)[2]? = some ((wst x m o u u2 v T z D sc L).1 15, cE (wst x m o u u2 v T z D sc L) (h00 sc L 15) 15) := rfl
set_option maxRecDepth 20000 in
theorem st0_16 : (stW x m o u u2 v T)[4]? = some ((wst x m o u u2 v T z D sc L).1 16, cE (wst x m o u u2 v T z D sc L) (h00 sc L 16) 16) := rfl
set_option maxRecDepth 20000 in
theorem st0_17 : (stW x m o u u2 v T)[5]? = some ((wst x m o u u2 v T z D sc L).1 17, cE (wst x m o u u2 v T z D sc L) (h00 sc L 17) 17) := rfl
set_option maxRecDepth 20000 in
theorem st0_18 : (stW x m o u u2 v T)[6]? = some ((wst x m o u u2 v T z D sc L).1 18, cE (wst x m o u u2 v T z D sc L) (h00 sc L 18) 18) := rfl
set_option maxRecDepth 20000 in
theorem st0_19 : (stW x m o u u2 v T)[9]? = some ((wst x m o u u2 v T z D sc L).1 19, cE (wst x m o u u2 v T z D sc L) (h00 sc L 19) 19) := rfl
set_option maxRecDepth 20000 in
theorem st0_20 : (stW x m o u u2 v T)[10]? = some ((wst x m o u u2 v T z D sc L).1 20, cE (wst x m o u u2 v T z D sc L) (h00 sc L 20) 20) := rfl
set_option maxRecDepth 20000 in
theorem st0_21 : (stW x m o u u2 v T)[11]? = some ((wst x m o u u2 v T z D sc L).1 21, cE (wst x m o u u2 v T z D sc L) (h00 sc L 21) 21) := rfl
set_option maxRecDepth 20000 in
theorem st0_22 : (stW x m o u u2 v T)[13]? = some ((wst x m o u u2 v T z D sc L).1 22, cE (wst x m o u u2 v T z D sc L) (h00 sc L 22) 22) := rfl
set_option maxRecDepth 20000 in
theorem st0_23 : (stW x m o u u2 v T)[15]? = some ((wst x m o u u2 v T z D sc L).1 23, cE (wst x m o u u2 v T z D sc L) (h00 sc L 23) 23) := rfl
set_option maxRecDepth 20000 in
theorem st0_24 : (stW x m o u u2 v T)[16]? = some ((wst x m o u u2 v T z D sc L).1 24, cE (wst x m o u u2 v T z D sc L) (h00 sc L 24) 24) := by
  have e : (fun i => if i < 4 then some (u.2 0 i) else none) = fun i => if i < 4 then some ((wst x m o u u2 v T z D sc L).1 (25 + i)) else none := by
    funext i
    by_cases q : i < 4
    · rw [if_pos q, if_pos q]
      show some (u.2 0 i) = some (adW x m o u u2 v (25 + i))
      unfold adW
      rw [if_pos (by omega), Nat.add_sub_cancel_left]
    · rw [if_neg q, if_neg q]
  rw [cE_104 (by decide +kernel), show (mk 24).2 = 4 from by decide +kernel, show mr 24 0 = 25 from by decide +kernel, ← e]
  rfl
set_option maxRecDepth 20000 in
theorem st0_25 : (stW x m o u u2 v T)[17]? = some ((wst x m o u u2 v T z D sc L).1 25, cE (wst x m o u u2 v T z D sc L) (h00 sc L 25) 25) := rfl
set_option maxRecDepth 20000 in
theorem st0_26 : (stW x m o u u2 v T)[18]? = some ((wst x m o u u2 v T z D sc L).1 26, cE (wst x m o u u2 v T z D sc L) (h00 sc L 26) 26) := rfl
set_option maxRecDepth 20000 in
theorem st0_27 : (stW x m o u u2 v T)[19]? = some ((wst x m o u u2 v T z D sc L).1 27, cE (wst x m o u u2 v T z D sc L) (h00 sc L 27) 27) := rfl
set_option maxRecDepth 20000 in
theorem st0_28 : (stW x m o u u2 v T)[20]? = some ((wst x m o u u2 v T z D sc L).1 28, cE (wst x m o u u2 v T z D sc L) (h00 sc L 28) 28) := rfl
set_option maxRecDepth 20000 in
theorem st0_29 : (stW x m o u u2 v T)[21]? = some ((wst x m o u u2 v T z D sc L).1 29, cE (wst x m o u u2 v T z D sc L) (h00 sc L 29) 29) := rfl
set_option maxRecDepth 20000 in
theorem st0_30 : (stW x m o u u2 v T)[22]? = some ((wst x m o u u2 v T z D sc L).1 30, cE (wst x m o u u2 v T z D sc L) (h00 sc L 30) 30) := rfl
set_option maxRecDepth 20000 in
theorem st0_31 : (stW x m o u u2 v T)[24]? = some ((wst x m o u u2 v T z D sc L).1 31, cE (wst x m o u u2 v T z D sc L) (h00 sc L 31) 31) := rfl
set_option maxRecDepth 20000 in
theorem st0_32 : (stW x m o u u2 v T)[25]? = some ((wst x m o u u2 v T z D sc L).1 32, cE (wst x m o u u2 v T z D sc L) (h00 sc L 32) 32) := by
  have e : (fun i => if i < 4 then some (u.2 1 i) else none) = fun i => if i < 4 then some ((wst x m o u u2 v T z D sc L).1 (33 + i)) else none := by
    funext i
    by_cases q : i < 4
    · rw [if_pos q, if_pos q]
      show some (u.2 1 i) = some (adW x m o u u2 v (33 + i))
      unfold adW
      rw [if_neg (by omega)]
      rw [if_pos (by omega), Nat.add_sub_cancel_left]
    · rw [if_neg q, if_neg q]
  rw [cE_104 (by decide +kernel), show (mk 32).2 = 4 from by decide +kernel, show mr 32 0 = 33 from by decide +kernel, ← e]
  rfl
set_option maxRecDepth 20000 in
theorem st0_33 : (stW x m o u u2 v T)[26]? = some ((wst x m o u u2 v T z D sc L).1 33, cE (wst x m o u u2 v T z D sc L) (h00 sc L 33) 33) := rfl
set_option maxRecDepth 20000 in
theorem st0_34 : (stW x m o u u2 v T)[27]? = some ((wst x m o u u2 v T z D sc L).1 34, cE (wst x m o u u2 v T z D sc L) (h00 sc L 34) 34) := rfl
set_option maxRecDepth 20000 in
theorem st0_35 : (stW x m o u u2 v T)[28]? = some ((wst x m o u u2 v T z D sc L).1 35, cE (wst x m o u u2 v T z D sc L) (h00 sc L 35) 35) := rfl
set_option maxRecDepth 20000 in
theorem st0_36 : (stW x m o u u2 v T)[29]? = some ((wst x m o u u2 v T z D sc L).1 36, cE (wst x m o u u2 v T z D sc L) (h00 sc L 36) 36) := rfl
set_option maxRecDepth 20000 in
theorem st0_37 : (stW x m o u u2 v T)[30]? = some ((wst x m o u u2 v T z D sc L).1 37, cE (wst x m o u u2 v T z D sc L) (h00 sc L 37) 37) := rfl
set_option maxRecDepth 20000 in
theorem st0_38 : (stW x m o u u2 v T)[32]? = some ((wst x m o u u2 v T z D sc L).1 38, cE (wst x m o u u2 v T z D sc L) (h00 sc L 38) 38) := rfl
set_option maxRecDepth 20000 in
theorem st0_39 : (stW x m o u u2 v T)[33]? = some ((wst x m o u u2 v T z D sc L).1 39, cE (wst x m o u u2 v T z D sc L) (h00 sc L 39) 39) := rfl
set_option maxRecDepth 20000 in
theorem st0_40 : (stW x m o u u2 v T)[35]? = some ((wst x m o u u2 v T z D sc L).1 40, cE (wst x m o u u2 v T z D sc L) (h00 sc L 40) 40) := rfl
set_option maxRecDepth 20000 in
theorem st0_41 : (stW x m o u u2 v T)[36]? = some ((wst x m o u u2 v T z D sc L).1 41, cE (wst x m o u u2 v T z D sc L) (h00 sc L 41) 41) := rfl
set_option maxRecDepth 20000 in
theorem st0_42 : (stW x m o u u2 v T)[37]? = some ((wst x m o u u2 v T z D sc L).1 42, cE (wst x m o u u2 v T z D sc L) (h00 sc L 42) 42) := rfl
set_option maxRecDepth 20000 in
theorem st0_43 : (stW x m o u u2 v T)[38]? = some ((wst x m o u u2 v T z D sc L).1 43, cE (wst x m o u u2 v T z D sc L) (h00 sc L 43) 43) := rfl
set_option maxRecDepth 20000 in
theorem st0_44 : (stW x m o u u2 v T)[39]? = some ((wst x m o u u2 v T z D sc L).1 44, cE (wst x m o u u2 v T z D sc L) (h00 sc L 44) 44) := rfl
set_option maxRecDepth 20000 in
theorem st0_45 : (stW x m o u u2 v T)[41]? = some ((wst x m o u u2 v T z D sc L).1 45, cE (wst x m o u u2 v T z D sc L) (h00 sc L 45) 45) := rfl
set_option maxRecDepth 20000 in
theorem st0_46 : (stW x m o u u2 v T)[42]? = some ((wst x m o u u2 v T z D sc L).1 46, cE (wst x m o u u2 v T z D sc L) (h00 sc L 46) 46) := rfl
set_option maxRecDepth 20000 in
theorem st0_47 : (stW x m o u u2 v T)[43]? = some ((wst x m o u u2 v T z D sc L).1 47, cE (wst x m o u u2 v T z D sc L) (h00 sc L 47) 47) := rfl
set_option maxRecDepth 20000 in
theorem st0_48 : (stW x m o u u2 v T)[44]? = some ((wst x m o u u2 v T z D sc L).1 48, cE (wst x m o u u2 v T z D sc L) (h00 sc L 48) 48) := rfl
set_option maxRecDepth 20000 in
theorem st0_49 : (stW x m o u u2 v T)[45]? = some ((wst x m o u u2 v T z D sc L).1 49, cE (wst x m o u u2 v T z D sc L) (h00 sc L 49) 49) := rfl
set_option maxRecDepth 20000 in
theorem st0_50 : (stW x m o u u2 v T)[47]? = some ((wst x m o u u2 v T z D sc L).1 50, cE (wst x m o u u2 v T z D sc L) (h00 sc L 50) 50) := by
  have e : (fun i => if i < 40 then some (u.2 2 i) else none) = fun i => if i < 40 then some ((wst x m o u u2 v T z D sc L).1 (51 + i)) else none := by
    funext i
    by_cases q : i < 40
    · rw [if_pos q, if_pos q]
      show some (u.2 2 i) = some (adW x m o u u2 v (51 + i))
      unfold adW
      rw [if_neg (by omega)]
      rw [if_neg (by omega)]
      rw [if_pos (by omega), Nat.add_sub_cancel_left]
    · rw [if_neg q, if_neg q]
  rw [cE_104 (by decide +kernel), show (mk 50).2 = 40 from by decide +kernel, show mr 50 0 = 51 from by decide +kernel, ← e]
  rfl
set_option maxRecDepth 20000 in
theorem st0_51 : (stW x m o u u2 v T)[48]? = some ((wst x m o u u2 v T z D sc L).1 51, cE (wst x m o u u2 v T z D sc L) (h00 sc L 51) 51) := rfl
set_option maxRecDepth 20000 in
theorem st0_52 : (stW x m o u u2 v T)[49]? = some ((wst x m o u u2 v T z D sc L).1 52, cE (wst x m o u u2 v T z D sc L) (h00 sc L 52) 52) := rfl
set_option maxRecDepth 20000 in
theorem st0_53 : (stW x m o u u2 v T)[50]? = some ((wst x m o u u2 v T z D sc L).1 53, cE (wst x m o u u2 v T z D sc L) (h00 sc L 53) 53) := rfl
set_option maxRecDepth 20000 in
theorem st0_54 : (stW x m o u u2 v T)[51]? = some ((wst x m o u u2 v T z D sc L).1 54, cE (wst x m o u u2 v T z D sc L) (h00 sc L 54) 54) := rfl
set_option maxRecDepth 20000 in
theorem st0_55 : (stW x m o u u2 v T)[52]? = some ((wst x m o u u2 v T z D sc L).1 55, cE (wst x m o u u2 v T z D sc L) (h00 sc L 55) 55) := rfl
set_option maxRecDepth 20000 in
theorem st0_56 : (stW x m o u u2 v T)[53]? = some ((wst x m o u u2 v T z D sc L).1 56, cE (wst x m o u u2 v T z D sc L) (h00 sc L 56) 56) := rfl
set_option maxRecDepth 20000 in
theorem st0_57 : (stW x m o u u2 v T)[54]? = some ((wst x m o u u2 v T z D sc L).1 57, cE (wst x m o u u2 v T z D sc L) (h00 sc L 57) 57) := rfl
set_option maxRecDepth 20000 in
theorem st0_58 : (stW x m o u u2 v T)[55]? = some ((wst x m o u u2 v T z D sc L).1 58, cE (wst x m o u u2 v T z D sc L) (h00 sc L 58) 58) := rfl
set_option maxRecDepth 20000 in
theorem st0_59 : (stW x m o u u2 v T)[56]? = some ((wst x m o u u2 v T z D sc L).1 59, cE (wst x m o u u2 v T z D sc L) (h00 sc L 59) 59) := rfl
set_option maxRecDepth 20000 in
theorem st0_60 : (stW x m o u u2 v T)[57]? = some ((wst x m o u u2 v T z D sc L).1 60, cE (wst x m o u u2 v T z D sc L) (h00 sc L 60) 60) := rfl
set_option maxRecDepth 20000 in
theorem st0_61 : (stW x m o u u2 v T)[58]? = some ((wst x m o u u2 v T z D sc L).1 61, cE (wst x m o u u2 v T z D sc L) (h00 sc L 61) 61) := rfl
set_option maxRecDepth 20000 in
theorem st0_62 : (stW x m o u u2 v T)[59]? = some ((wst x m o u u2 v T z D sc L).1 62, cE (wst x m o u u2 v T z D sc L) (h00 sc L 62) 62) := rfl
set_option maxRecDepth 20000 in
theorem st0_63 : (stW x m o u u2 v T)[60]? = some ((wst x m o u u2 v T z D sc L).1 63, cE (wst x m o u u2 v T z D sc L) (h00 sc L 63) 63) := rfl
set_option maxRecDepth 20000 in
theorem st0_64 : (stW x m o u u2 v T)[61]? = some ((wst x m o u u2 v T z D sc L).1 64, cE (wst x m o u u2 v T z D sc L) (h00 sc L 64) 64) := rfl
set_option maxRecDepth 20000 in
theorem st0_65 : (stW x m o u u2 v T)[62]? = some ((wst x m o u u2 v T z D sc L).1 65, cE (wst x m o u u2 v T z D sc L) (h00 sc L 65) 65) := rfl
set_option maxRecDepth 20000 in
theorem st0_66 : (stW x m o u u2 v T)[63]? = some ((wst x m o u u2 v T z D sc L).1 66, cE (wst x m o u u2 v T z D sc L) (h00 sc L 66) 66) := rfl
set_option maxRecDepth 20000 in
theorem st0_67 : (stW x m o u u2 v T)[64]? = some ((wst x m o u u2 v T z D sc L).1 67, cE (wst x m o u u2 v T z D sc L) (h00 sc L 67) 67) := rfl
set_option maxRecDepth 20000 in
theorem st0_68 : (stW x m o u u2 v T)[65]? = some ((wst x m o u u2 v T z D sc L).1 68, cE (wst x m o u u2 v T z D sc L) (h00 sc L 68) 68) := rfl
set_option maxRecDepth 20000 in
theorem st0_69 : (stW x m o u u2 v T)[66]? = some ((wst x m o u u2 v T z D sc L).1 69, cE (wst x m o u u2 v T z D sc L) (h00 sc L 69) 69) := rfl
set_option maxRecDepth 20000 in
theorem st0_70 : (stW x m o u u2 v T)[67]? = some ((wst x m o u u2 v T z D sc L).1 70, cE (wst x m o u u2 v T z D sc L) (h00 sc L 70) 70) := rfl
set_option maxRecDepth 20000 in
theorem st0_71 : (stW x m o u u2 v T)[68]? = some ((wst x m o u u2 v T z D sc L).1 71, cE (wst x m o u u2 v T z D sc L) (h00 sc L 71) 71) := rfl
set_option maxRecDepth 20000 in
theorem st0_72 : (stW x m o u u2 v T)[69]? = some ((wst x m o u u2 v T z D sc L).1 72, cE (wst x m o u u2 v T z D sc L) (h00 sc L 72) 72) := rfl
set_option maxRecDepth 20000 in
theorem st0_73 : (stW x m o u u2 v T)[70]? = some ((wst x m o u u2 v T z D sc L).1 73, cE (wst x m o u u2 v T z D sc L) (h00 sc L 73) 73) := rfl
set_option maxRecDepth 20000 in
theorem st0_74 : (stW x m o u u2 v T)[71]? = some ((wst x m o u u2 v T z D sc L).1 74, cE (wst x m o u u2 v T z D sc L) (h00 sc L 74) 74) := rfl
set_option maxRecDepth 20000 in
theorem st0_75 : (stW x m o u u2 v T)[72]? = some ((wst x m o u u2 v T z D sc L).1 75, cE (wst x m o u u2 v T z D sc L) (h00 sc L 75) 75) := rfl
set_option maxRecDepth 20000 in
theorem st0_76 : (stW x m o u u2 v T)[73]? = some ((wst x m o u u2 v T z D sc L).1 76, cE (wst x m o u u2 v T z D sc L) (h00 sc L 76) 76) := rfl
set_option maxRecDepth 20000 in
theorem st0_77 : (stW x m o u u2 v T)[74]? = some ((wst x m o u u2 v T z D sc L).1 77, cE (wst x m o u u2 v T z D sc L) (h00 sc L 77) 77) := rfl
set_option maxRecDepth 20000 in
theorem st0_78 : (stW x m o u u2 v T)[75]? = some ((wst x m o u u2 v T z D sc L).1 78, cE (wst x m o u u2 v T z D sc L) (h00 sc L 78) 78) := rfl
set_option maxRecDepth 20000 in
theorem st0_79 : (stW x m o u u2 v T)[76]? = some ((wst x m o u u2 v T z D sc L).1 79, cE (wst x m o u u2 v T z D sc L) (h00 sc L 79) 79) := rfl
set_option maxRecDepth 20000 in
theorem st0_80 : (stW x m o u u2 v T)[77]? = some ((wst x m o u u2 v T z D sc L).1 80, cE (wst x m o u u2 v T z D sc L) (h00 sc L 80) 80) := rfl
set_option maxRecDepth 20000 in
theorem st0_81 : (stW x m o u u2 v T)[78]? = some ((wst x m o u u2 v T z D sc L).1 81, cE (wst x m o u u2 v T z D sc L) (h00 sc L 81) 81) := rfl
set_option maxRecDepth 20000 in
theorem st0_82 : (stW x m o u u2 v T)[79]? = some ((wst x m o u u2 v T z D sc L).1 82, cE (wst x m o u u2 v T z D sc L) (h00 sc L 82) 82) := rfl
set_option maxRecDepth 20000 in
theorem st0_83 : (stW x m o u u2 v T)[80]? = some ((wst x m o u u2 v T z D sc L).1 83, cE (wst x m o u u2 v T z D sc L) (h00 sc L 83) 83) := rfl
set_option maxRecDepth 20000 in
theorem st0_84 : (stW x m o u u2 v T)[81]? = some ((wst x m o u u2 v T z D sc L).1 84, cE (wst x m o u u2 v T z D sc L) (h00 sc L 84) 84) := rfl
set_option maxRecDepth 20000 in
theorem st0_85 : (stW x m o u u2 v T)[82]? = some ((wst x m o u u2 v T z D sc L).1 85, cE (wst x m o u u2 v T z D sc L) (h00 sc L 85) 85) := rfl
set_option maxRecDepth 20000 in
theorem st0_86 : (stW x m o u u2 v T)[83]? = some ((wst x m o u u2 v T z D sc L).1 86, cE (wst x m o u u2 v T z D sc L) (h00 sc L 86) 86) := rfl
set_option maxRecDepth 20000 in
theorem st0_87 : (stW x m o u u2 v T)[84]? = some ((wst x m o u u2 v T z D sc L).1 87, cE (wst x m o u u2 v T z D sc L) (h00 sc L 87) 87) := rfl
set_option maxRecDepth 20000 in
theorem st0_88 : (stW x m o u u2 v T)[85]? = some ((wst x m o u u2 v T z D sc L).1 88, cE (wst x m o u u2 v T z D sc L) (h00 sc L 88) 88) := rfl
set_option maxRecDepth 20000 in
theorem st0_89 : (stW x m o u u2 v T)[86]? = some ((wst x m o u u2 v T z D sc L).1 89, cE (wst x m o u u2 v T z D sc L) (h00 sc L 89) 89) := rfl
set_option maxRecDepth 20000 in
theorem st0_90 : (stW x m o u u2 v T)[87]? = some ((wst x m o u u2 v T z D sc L).1 90, cE (wst x m o u u2 v T z D sc L) (h00 sc L 90) 90) := rfl
set_option maxRecDepth 20000 in
theorem st0_91 : (stW x m o u u2 v T)[89]? = some ((wst x m o u u2 v T z D sc L).1 91, cE (wst x m o u u2 v T z D sc L) (h00 sc L 91) 91) := rfl
set_option maxRecDepth 20000 in
theorem st0_92 : (stW x m o u u2 v T)[90]? = some ((wst x m o u u2 v T z D sc L).1 92, cE (wst x m o u u2 v T z D sc L) (h00 sc L 92) 92) := rfl
set_option maxRecDepth 20000 in
theorem st0_93 : (stW x m o u u2 v T)[92]? = some ((wst x m o u u2 v T z D sc L).1 93, cE (wst x m o u u2 v T z D sc L) (h00 sc L 93) 93) := rfl
set_option maxRecDepth 20000 in
theorem st0_94 : (stW x m o u u2 v T)[93]? = some ((wst x m o u u2 v T z D sc L).1 94, cE (wst x m o u u2 v T z D sc L) (h00 sc L 94) 94) := rfl
set_option maxRecDepth 20000 in
theorem st0_95 : (stW x m o u u2 v T)[95]? = some ((wst x m o u u2 v T z D sc L).1 95, cE (wst x m o u u2 v T z D sc L) (h00 sc L 95) 95) := rfl
set_option maxRecDepth 20000 in
theorem st0_96 : (stW x m o u u2 v T)[96]? = some ((wst x m o u u2 v T z D sc L).1 96, cE (wst x m o u u2 v T z D sc L) (h00 sc L 96) 96) := rfl
set_option maxRecDepth 20000 in
theorem st0_97 : (stW x m o u u2 v T)[97]? = some ((wst x m o u u2 v T z D sc L).1 97, cE (wst x m o u u2 v T z D sc L) (h00 sc L 97) 97) := rfl
set_option maxRecDepth 20000 in
theorem st0_98 : (stW x m o u u2 v T)[98]? = some ((wst x m o u u2 v T z D sc L).1 98, cE (wst x m o u u2 v T z D sc L) (h00 sc L 98) 98) := rfl
set_option maxRecDepth 20000 in
theorem st0_99 : (stW x m o u u2 v T)[99]? = some ((wst x m o u u2 v T z D sc L).1 99, cE (wst x m o u u2 v T z D sc L) (h00 sc L 99) 99) := rfl
set_option maxRecDepth 20000 in
theorem st0_100 : (stW x m o u u2 v T)[100]? = some ((wst x m o u u2 v T z D sc L).1 100, cE (wst x m o u u2 v T z D sc L) (h00 sc L 100) 100) := rfl
set_option maxRecDepth 20000 in
theorem st0_101 : (stW x m o u u2 v T)[101]? = some ((wst x m o u u2 v T z D sc L).1 101, cE (wst x m o u u2 v T z D sc L) (h00 sc L 101) 101) := rfl
set_option maxRecDepth 20000 in
theorem st0_102 : (stW x m o u u2 v T)[102]? = some ((wst x m o u u2 v T z D sc L).1 102, cE (wst x m o u u2 v T z D sc L) (h00 sc L 102) 102) := rfl
set_option maxRecDepth 20000 in
theorem st0_103 : (stW x m o u u2 v T)[103]? = some ((wst x m o u u2 v T z D sc L).1 103, cE (wst x m o u u2 v T z D sc L) (h00 sc L 103) 103) := rfl
set_option maxRecDepth 20000 in
theorem st0_104 : (stW x m o u u2 v T)[104]? = some ((wst x m o u u2 v T z D sc L).1 104, cE (wst x m o u u2 v T z D sc L) (h00 sc L 104) 104) := rfl
set_option maxRecDepth 20000 in
theorem st0_105 : (stW x m o u u2 v T)[105]? = some ((wst x m o u u2 v T z D sc L).1 105, cE (wst x m o u u2 v T z D sc L) (h00 sc L 105) 105) := rfl
set_option maxRecDepth 20000 in
theorem st0_106 : (stW x m o u u2 v T)[106]? = some ((wst x m o u u2 v T z D sc L).1 106, cE (wst x m o u u2 v T z D sc L) (h00 sc L 106) 106) := rfl
set_option maxRecDepth 20000 in
theorem st0_107 : (stW x m o u u2 v T)[107]? = some ((wst x m o u u2 v T z D sc L).1 107, cE (wst x m o u u2 v T z D sc L) (h00 sc L 107) 107) := rfl
set_option maxRecDepth 20000 in
theorem st0_108 : (stW x m o u u2 v T)[108]? = some ((wst x m o u u2 v T z D sc L).1 108, cE (wst x m o u u2 v T z D sc L) (h00 sc L 108) 108) := rfl
set_option maxRecDepth 20000 in
theorem st0_109 : (stW x m o u u2 v T)[109]? = some ((wst x m o u u2 v T z D sc L).1 109, cE (wst x m o u u2 v T z D sc L) (h00 sc L 109) 109) := rfl
set_option maxRecDepth 20000 in
theorem st0_110 : (stW x m o u u2 v T)[110]? = some ((wst x m o u u2 v T z D sc L).1 110, cE (wst x m o u u2 v T z D sc L) (h00 sc L 110) 110) := rfl
set_option maxRecDepth 20000 in
theorem st0_111 : (stW x m o u u2 v T)[111]? = some ((wst x m o u u2 v T z D sc L).1 111, cE (wst x m o u u2 v T z D sc L) (h00 sc L 111) 111) := rfl
set_option maxRecDepth 20000 in
theorem st0_112 : (stW x m o u u2 v T)[112]? = some ((wst x m o u u2 v T z D sc L).1 112, cE (wst x m o u u2 v T z D sc L) (h00 sc L 112) 112) := rfl
set_option maxRecDepth 20000 in
theorem st0_113 : (stW x m o u u2 v T)[113]? = some ((wst x m o u u2 v T z D sc L).1 113, cE (wst x m o u u2 v T z D sc L) (h00 sc L 113) 113) := rfl
set_option maxRecDepth 20000 in
theorem st0_114 : (stW x m o u u2 v T)[114]? = some ((wst x m o u u2 v T z D sc L).1 114, cE (wst x m o u u2 v T z D sc L) (h00 sc L 114) 114) := rfl
set_option maxRecDepth 20000 in
theorem st0_115 : (stW x m o u u2 v T)[115]? = some ((wst x m o u u2 v T z D sc L).1 115, cE (wst x m o u u2 v T z D sc L) (h00 sc L 115) 115) := rfl
set_option maxRecDepth 20000 in
theorem st0_116 : (stW x m o u u2 v T)[116]? = some ((wst x m o u u2 v T z D sc L).1 116, cE (wst x m o u u2 v T z D sc L) (h00 sc L 116) 116) := rfl
set_option maxRecDepth 20000 in
theorem st0_117 : (stW x m o u u2 v T)[117]? = some ((wst x m o u u2 v T z D sc L).1 117, cE (wst x m o u u2 v T z D sc L) (h00 sc L 117) 117) := rfl
set_option maxRecDepth 20000 in
theorem st0_118 : (stW x m o u u2 v T)[118]? = some ((wst x m o u u2 v T z D sc L).1 118, cE (wst x m o u u2 v T z D sc L) (h00 sc L 118) 118) := rfl
set_option maxRecDepth 20000 in
theorem st0_119 : (stW x m o u u2 v T)[119]? = some ((wst x m o u u2 v T z D sc L).1 119, cE (wst x m o u u2 v T z D sc L) (h00 sc L 119) 119) := rfl
set_option maxRecDepth 20000 in
theorem st0_120 : (stW x m o u u2 v T)[120]? = some ((wst x m o u u2 v T z D sc L).1 120, cE (wst x m o u u2 v T z D sc L) (h00 sc L 120) 120) := rfl
theorem st0_all : ∀ a, a < 121 → (stW x m o u u2 v T)[sgL.getD a 0]? = some ((wst x m o u u2 v T z D sc L).1 a, cE (wst x m o u u2 v T z D sc L) (h00 sc L a) a) := by
  have h : ∀ a ∈ ([0, 1, 2, 3, 4, 5, 6, 7, 8, 9, 10, 11, 12, 13, 14, 15, 16, 17, 18, 19, 20, 21, 22, 23, 24, 25, 26, 27, 28, 29, 30, 31, 32, 33, 34, 35, 36, 37, 38, 39, 40, 41, 42, 43, 44, 45, 46, 47, 48, 49, 50, 51, 52, 53, 54, 55, 56, 57, 58, 59, 60, 61, 62, 63, 64, 65, 66, 67, 68, 69, 70, 71, 72, 73, 74, 75, 76, 77, 78, 79, 80, 81, 82, 83, 84, 85, 86, 87, 88, 89, 90, 91, 92, 93, 94, 95, 96, 97, 98, 99, 100, 101, 102, 103, 104, 105, 106, 107, 108, 109, 110, 111, 112, 113, 114, 115, 116, 117, 118, 119, 120] : List Nat), (stW x m o u u2 v T)[sgL.getD a 0]? = some ((wst x m o u u2 v T z D sc L).1 a, cE (wst x m o u u2 v T z D sc L) (h00 sc L a) a) := by
    refine List.forall_mem_cons.2 ⟨st0_0 x m o u u2 v T z D sc L, ?_⟩
    refine List.forall_mem_cons.2 ⟨st0_1 x m o u u2 v T z D sc L, ?_⟩
    refine List.forall_mem_cons.2 ⟨st0_2 x m o u u2 v T z D sc L, ?_⟩
    refine List.forall_mem_cons.2 ⟨st0_3 x m o u u2 v T z D sc L, ?_⟩
    refine List.forall_mem_cons.2 ⟨st0_4 x m o u u2 v T z D sc L, ?_⟩
    refine List.forall_mem_cons.2 ⟨st0_5 x m o u u2 v T z D sc L, ?_⟩
    refine List.forall_mem_cons.2 ⟨st0_6 x m o u u2 v T z D sc L, ?_⟩
    refine List.forall_mem_cons.2 ⟨st0_7 x m o u u2 v T z D sc L, ?_⟩
    refine List.forall_mem_cons.2 ⟨st0_8 x m o u u2 v T z D sc L, ?_⟩
    refine List.forall_mem_cons.2 ⟨st0_9 x m o u u2 v T z D sc L, ?_⟩
    refine List.forall_mem_cons.2 ⟨st0_10 x m o u u2 v T z D sc L, ?_⟩
    refine List.forall_mem_cons.2 ⟨st0_11 x m o u u2 v T z D sc L, ?_⟩
    refine List.forall_mem_cons.2 ⟨st0_12 x m o u u2 v T z D sc L, ?_⟩
    refine List.forall_mem_cons.2 ⟨st0_13 x m o u u2 v T z D sc L, ?_⟩
    refine List.forall_mem_cons.2 ⟨st0_14 x m o u u2 v T z D sc L, ?_⟩
    refine List.forall_mem_cons.2 ⟨st0_15 x m o u u2 v T z D sc L, ?_⟩
    refine List.forall_mem_cons.2 ⟨st0_16 x m o u u2 v T z D sc L, ?_⟩
    refine List.forall_mem_cons.2 ⟨st0_17 x m o u u2 v T z D sc L, ?_⟩
    refine List.forall_mem_cons.2 ⟨st0_18 x m o u u2 v T z D sc L, ?_⟩
    refine List.forall_mem_cons.2 ⟨st0_19 x m o u u2 v T z D sc L, ?_⟩
    refine List.forall_mem_cons.2 ⟨st0_20 x m o u u2 v T z D sc L, ?_⟩
    refine List.forall_mem_cons.2 ⟨st0_21 x m o u u2 v T z D sc L, ?_⟩
    refine List.forall_mem_cons.2 ⟨st0_22 x m o u u2 v T z D sc L, ?_⟩
    refine List.forall_mem_cons.2 ⟨st0_23 x m o u u2 v T z D sc L, ?_⟩
    refine List.forall_mem_cons.2 ⟨st0_24 x m o u u2 v T z D sc L, ?_⟩
    refine List.forall_mem_cons.2 ⟨st0_25 x m o u u2 v T z D sc L, ?_⟩
    refine List.forall_mem_cons.2 ⟨st0_26 x m o u u2 v T z D sc L, ?_⟩
    refine List.forall_mem_cons.2 ⟨st0_27 x m o u u2 v T z D sc L, ?_⟩
    refine List.forall_mem_cons.2 ⟨st0_28 x m o u u2 v T z D sc L, ?_⟩
    refine List.forall_mem_cons.2 ⟨st0_29 x m o u u2 v T z D sc L, ?_⟩
    refine List.forall_mem_cons.2 ⟨st0_30 x m o u u2 v T z D sc L, ?_⟩
    refine List.forall_mem_cons.2 ⟨st0_31 x m o u u2 v T z D sc L, ?_⟩
    refine List.forall_mem_cons.2 ⟨st0_32 x m o u u2 v T z D sc L, ?_⟩
    refine List.forall_mem_cons.2 ⟨st0_33 x m o u u2 v T z D sc L, ?_⟩
    refine List.forall_mem_cons.2 ⟨st0_34 x m o u u2 v T z D sc L, ?_⟩
    refine List.forall_mem_cons.2 ⟨st0_35 x m o u u2 v T z D sc L, ?_⟩
    refine List.forall_mem_cons.2 ⟨st0_36 x m o u u2 v T z D sc L, ?_⟩
    refine List.forall_mem_cons.2 ⟨st0_37 x m o u u2 v T z D sc L, ?_⟩
    refine List.forall_mem_cons.2 ⟨st0_38 x m o u u2 v T z D sc L, ?_⟩
    refine List.forall_mem_cons.2 ⟨st0_39 x m o u u2 v T z D sc L, ?_⟩
    refine List.forall_mem_cons.2 ⟨st0_40 x m o u u2 v T z D sc L, ?_⟩
    refine List.forall_mem_cons.2 ⟨st0_41 x m o u u2 v T z D sc L, ?_⟩
    refine List.forall_mem_cons.2 ⟨st0_42 x m o u u2 v T z D sc L, ?_⟩
    refine List.forall_mem_cons.2 ⟨st0_43 x m o u u2 v T z D sc L, ?_⟩
    refine List.forall_mem_cons.2 ⟨st0_44 x m o u u2 v T z D sc L, ?_⟩
    refine List.forall_mem_cons.2 ⟨st0_45 x m o u u2 v T z D sc L, ?_⟩
    refine List.forall_mem_cons.2 ⟨st0_46 x m o u u2 v T z D sc L, ?_⟩
    refine List.forall_mem_cons.2 ⟨st0_47 x m o u u2 v T z D sc L, ?_⟩
    refine List.forall_mem_cons.2 ⟨st0_48 x m o u u2 v T z D sc L, ?_⟩
    refine List.forall_mem_cons.2 ⟨st0_49 x m o u u2 v T z D sc L, ?_⟩
    refine List.forall_mem_cons.2 ⟨st0_50 x m o u u2 v T z D sc L, ?_⟩
    refine List.forall_mem_cons.2 ⟨st0_51 x m o u u2 v T z D sc L, ?_⟩
    refine List.forall_mem_cons.2 ⟨st0_52 x m o u u2 v T z D sc L, ?_⟩
    refine List.forall_mem_cons.2 ⟨st0_53 x m o u u2 v T z D sc L, ?_⟩
    refine List.forall_mem_cons.2 ⟨st0_54 x m o u u2 v T z D sc L, ?_⟩
    refine List.forall_mem_cons.2 ⟨st0_55 x m o u u2 v T z D sc L, ?_⟩
    refine List.forall_mem_cons.2 ⟨st0_56 x m o u u2 v T z D sc L, ?_⟩
    refine List.forall_mem_cons.2 ⟨st0_57 x m o u u2 v T z D sc L, ?_⟩
    refine List.forall_mem_cons.2 ⟨st0_58 x m o u u2 v T z D sc L, ?_⟩
    refine List.forall_mem_cons.2 ⟨st0_59 x m o u u2 v T z D sc L, ?_⟩
    refine List.forall_mem_cons.2 ⟨st0_60 x m o u u2 v T z D sc L, ?_⟩
    refine List.forall_mem_cons.2 ⟨st0_61 x m o u u2 v T z D sc L, ?_⟩
    refine List.forall_mem_cons.2 ⟨st0_62 x m o u u2 v T z D sc L, ?_⟩
    refine List.forall_mem_cons.2 ⟨st0_63 x m o u u2 v T z D sc L, ?_⟩
    refine List.forall_mem_cons.2 ⟨st0_64 x m o u u2 v T z D sc L, ?_⟩
    refine List.forall_mem_cons.2 ⟨st0_65 x m o u u2 v T z D sc L, ?_⟩
    refine List.forall_mem_cons.2 ⟨st0_66 x m o u u2 v T z D sc L, ?_⟩
    refine List.forall_mem_cons.2 ⟨st0_67 x m o u u2 v T z D sc L, ?_⟩
    refine List.forall_mem_cons.2 ⟨st0_68 x m o u u2 v T z D sc L, ?_⟩
    refine List.forall_mem_cons.2 ⟨st0_69 x m o u u2 v T z D sc L, ?_⟩
    refine List.forall_mem_cons.2 ⟨st0_70 x m o u u2 v T z D sc L, ?_⟩
    refine List.forall_mem_cons.2 ⟨st0_71 x m o u u2 v T z D sc L, ?_⟩
    refine List.forall_mem_cons.2 ⟨st0_72 x m o u u2 v T z D sc L, ?_⟩
    refine List.forall_mem_cons.2 ⟨st0_73 x m o u u2 v T z D sc L, ?_⟩
    refine List.forall_mem_cons.2 ⟨st0_74 x m o u u2 v T z D sc L, ?_⟩
    refine List.forall_mem_cons.2 ⟨st0_75 x m o u u2 v T z D sc L, ?_⟩
    refine List.forall_mem_cons.2 ⟨st0_76 x m o u u2 v T z D sc L, ?_⟩
    refine List.forall_mem_cons.2 ⟨st0_77 x m o u u2 v T z D sc L, ?_⟩
    refine List.forall_mem_cons.2 ⟨st0_78 x m o u u2 v T z D sc L, ?_⟩
    refine List.forall_mem_cons.2 ⟨st0_79 x m o u u2 v T z D sc L, ?_⟩
    refine List.forall_mem_cons.2 ⟨st0_80 x m o u u2 v T z D sc L, ?_⟩
    refine List.forall_mem_cons.2 ⟨st0_81 x m o u u2 v T z D sc L, ?_⟩
    refine List.forall_mem_cons.2 ⟨st0_82 x m o u u2 v T z D sc L, ?_⟩
    refine List.forall_mem_cons.2 ⟨st0_83 x m o u u2 v T z D sc L, ?_⟩
    refine List.forall_mem_cons.2 ⟨st0_84 x m o u u2 v T z D sc L, ?_⟩
    refine List.forall_mem_cons.2 ⟨st0_85 x m o u u2 v T z D sc L, ?_⟩
    refine List.forall_mem_cons.2 ⟨st0_86 x m o u u2 v T z D sc L, ?_⟩
    refine List.forall_mem_cons.2 ⟨st0_87 x m o u u2 v T z D sc L, ?_⟩
    refine List.forall_mem_cons.2 ⟨st0_88 x m o u u2 v T z D sc L, ?_⟩
    refine List.forall_mem_cons.2 ⟨st0_89 x m o u u2 v T z D sc L, ?_⟩
    refine List.forall_mem_cons.2 ⟨st0_90 x m o u u2 v T z D sc L, ?_⟩
    refine List.forall_mem_cons.2 ⟨st0_91 x m o u u2 v T z D sc L, ?_⟩
    refine List.forall_mem_cons.2 ⟨st0_92 x m o u u2 v T z D sc L, ?_⟩
    refine List.forall_mem_cons.2 ⟨st0_93 x m o u u2 v T z D sc L, ?_⟩
    refine List.forall_mem_cons.2 ⟨st0_94 x m o u u2 v T z D sc L, ?_⟩
    refine List.forall_mem_cons.2 ⟨st0_95 x m o u u2 v T z D sc L, ?_⟩
    refine List.forall_mem_cons.2 ⟨st0_96 x m o u u2 v T z D sc L, ?_⟩
    refine List.forall_mem_cons.2 ⟨st0_97 x m o u u2 v T z D sc L, ?_⟩
    refine List.forall_mem_cons.2 ⟨st0_98 x m o u u2 v T z D sc L, ?_⟩
    refine List.forall_mem_cons.2 ⟨st0_99 x m o u u2 v T z D sc L, ?_⟩
    refine List.forall_mem_cons.2 ⟨st0_100 x m o u u2 v T z D sc L, ?_⟩
    refine List.forall_mem_cons.2 ⟨st0_101 x m o u u2 v T z D sc L, ?_⟩
    refine List.forall_mem_cons.2 ⟨st0_102 x m o u u2 v T z D sc L, ?_⟩
    refine List.forall_mem_cons.2 ⟨st0_103 x m o u u2 v T z D sc L, ?_⟩
    refine List.forall_mem_cons.2 ⟨st0_104 x m o u u2 v T z D sc L, ?_⟩
    refine List.forall_mem_cons.2 ⟨st0_105 x m o u u2 v T z D sc L, ?_⟩
    refine List.forall_mem_cons.2 ⟨st0_106 x m o u u2 v T z D sc L, ?_⟩
    refine List.forall_mem_cons.2 ⟨st0_107 x m o u u2 v T z D sc L, ?_⟩
    refine List.forall_mem_cons.2 ⟨st0_108 x m o u u2 v T z D sc L, ?_⟩
    refine List.forall_mem_cons.2 ⟨st0_109 x m o u u2 v T z D sc L, ?_⟩
    refine List.forall_mem_cons.2 ⟨st0_110 x m o u u2 v T z D sc L, ?_⟩
    refine List.forall_mem_cons.2 ⟨st0_111 x m o u u2 v T z D sc L, ?_⟩
    refine List.forall_mem_cons.2 ⟨st0_112 x m o u u2 v T z D sc L, ?_⟩
    refine List.forall_mem_cons.2 ⟨st0_113 x m o u u2 v T z D sc L, ?_⟩
    refine List.forall_mem_cons.2 ⟨st0_114 x m o u u2 v T z D sc L, ?_⟩
    refine List.forall_mem_cons.2 ⟨st0_115 x m o u u2 v T z D sc L, ?_⟩
    refine List.forall_mem_cons.2 ⟨st0_116 x m o u u2 v T z D sc L, ?_⟩
    refine List.forall_mem_cons.2 ⟨st0_117 x m o u u2 v T z D sc L, ?_⟩
    refine List.forall_mem_cons.2 ⟨st0_118 x m o u u2 v T z D sc L, ?_⟩
    refine List.forall_mem_cons.2 ⟨st0_119 x m o u u2 v T z D sc L, ?_⟩
    refine List.forall_mem_cons.2 ⟨st0_120 x m o u u2 v T z D sc L, ?_⟩
    exact fun _ h => nomatch h
  exact fun a ha => h a (List.mem_range.mpr ha)
end START
