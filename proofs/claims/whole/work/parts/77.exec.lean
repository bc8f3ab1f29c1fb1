/-! laws: the class works a law's code -/
def lt6 (LT : Nat → Int) : Nat → Int := l6F (LT 0) (LT 1) (LT 2) (LT 3) (LT 4) (LT 5)
theorem lt6_k (LT : Nat → Int) {k : Nat} (hk : k < 6) : lt6 LT k = LT k := by
  have c : k = 0 ∨ k = 1 ∨ k = 2 ∨ k = 3 ∨ k = 4 ∨ k = 5 := by omega
  rcases c with rfl | rfl | rfl | rfl | rfl | rfl <;> rfl
def b3 (LT : Nat → Int) : Prop := ∀ j, j < 6 → -1000 ≤ LT j ∧ LT j ≤ 1000
def VB (v : VF) : Prop := ∀ LT, b3 LT → -1000000 ≤ v (lt6 LT) ∧ v (lt6 LT) ≤ 1000000
def V01 (v : VF) : Prop := ∀ lt, v lt = 0 ∨ v lt = 1
theorem V01.B {v : VF} (h : V01 v) : VB v := fun LT _ => by have := h (lt6 LT); omega
def EV (r0 sz : Nat) (CD LT : Nat → Int) (h : MH) : Prop := h 6 2 = r0 ∧ h 29 r0 = sz ∧ (∀ j, j < sz → h (25 + r0) j = CD j) ∧ ∀ j, j < 6 → h 23 j = LT j
theorem EV.mv {r0 sz : Nat} {CD LT : Nat → Int} {h h2 : MH} (v : EV r0 sz CD LT h) (r4 : r0 < 4) (e : ∀ a, a ≠ 30 → h2 a = h a) : EV r0 sz CD LT h2 := ⟨by rw [e _ (by omega)]; exact v.1, by rw [e _ (by omega)]; exact v.2.1, by rw [e _ (by omega)]; exact v.2.2.1, by rw [e _ (by omega)]; exact v.2.2.2⟩
theorem tm16 {v s : Int} (v0 : 0 ≤ v) (s0 : 0 ≤ s) (s1 : s < 16) : (v * 16 + s).tmod 16 = s := by
  rw [Int.tmod_eq_emod_of_nonneg (by omega)]; omega
theorem td16 {v s : Int} (v0 : 0 ≤ v) (s0 : 0 ≤ s) (s1 : s < 16) : (v * 16 + s).tdiv 16 = v := by
  rw [Int.tdiv_eq_ediv_of_nonneg (by omega)]; omega
theorem st0 (d : Nat) {r0 sz : Nat} {CD LT : Nat → Int} {h : MH} (v : EV r0 sz CD LT h) (r4 : r0 < 4) (s2 : sz ≤ 240) {i : Nat} (hi : i < sz) {dp : Nat} {z3 z4 : MV} (y3 : cat z3 = 1) (y4 : cat z4 = 1) {V S : Int} (e : CD i = V * 16 + S) (v0 : 0 ≤ V) (v1 : V ≤ 9999) (s0 : 0 ≤ S) (s1 : S < 16) :
    Run (d + 2) 84 34 [vR 6, vR (25 + r0), .inl (dp : Int), .inl (i : Int), z3, z4] [] h = (if S = 0 then (if 64 ≤ (dp : Int) then some (some (.inl 0), h) else (if ¬ S = 1 then Run (d + 2) 84 98 [vR 6, vR (25 + r0), .inl (dp : Int), .inl (i : Int), .inl S, .inl V] [] h else (if V < 6 then Run (d + 2) 84 98 [vR 6, vR (25 + r0), .inl (dp : Int), .inl (i : Int), .inl S, .inl V] [] h else some (some (.inl 0), h)))) else (if ¬ S = 1 then (if ¬ S = 11 then Run (d + 2) 84 159 [vR 6, vR (25 + r0), .inl (dp : Int), .inl (i : Int), .inl S, .inl V] [] h else (if (dp : Int) ≤ 0 then Run (d + 2) 84 159 [vR 6, vR (25 + r0), .inl (dp : Int), .inl (i : Int), .inl S, .inl V] [] h else (if 0 ≤ (wI ((dp : Int) - 1)) ∧ (wI ((dp : Int) - 1)) < 64 then (if 0 ≤ (wI ((dp : Int) - 1)) ∧ (wI ((dp : Int) - 1)) < 64 then Run (d + 2) 84 34 [vR 6, vR (25 + r0), .inl (dp : Int), .inl (wI ((i : Int) + 1)), .inl S, .inl V] [] (up h 30 (wI ((dp : Int) - 1)).toNat (wI (1 - (h 30 (wI ((dp : Int) - 1)).toNat)))) else none) else none))) else (if 64 ≤ (dp : Int) then some (some (.inl 0), h) else (if ¬ S = 1 then Run (d + 2) 84 98 [vR 6, vR (25 + r0), .inl (dp : Int), .inl (i : Int), .inl S, .inl V] [] h else (if V < 6 then Run (d + 2) 84 98 [vR 6, vR (25 + r0), .inl (dp : Int), .inl (i : Int), .inl S, .inl V] [] h else some (some (.inl 0), h)))))) := by
  obtain ⟨e1, e2, e3, e4⟩ := v
  have hd := q84_34 (d + 1) r0 r4 (dp : Int) (i : Int) z3 y3 z4 y4 h
  rw [e1, if_pos (by omega), show ((r0 : Nat) : Int).toNat = r0 by omega, e2, if_neg (by omega), if_pos (by omega), if_pos (by omega), show ((i : Nat) : Int).toNat = i by omega, e3 i hi, e, tm16 v0 s0 s1, td16 v0 s0 s1, wI_ok (x := V) (by omega) (by omega)] at hd
  exact hd
theorem st_num (d : Nat) {r0 sz : Nat} {CD LT : Nat → Int} {h : MH} (v : EV r0 sz CD LT h) (r4 : r0 < 4) (s2 : sz ≤ 240) {i : Nat} (hi : i < sz) {dp : Nat} (hdp : dp < 64) {z3 z4 : MV} (y3 : cat z3 = 1) (y4 : cat z4 = 1) {V : Int} (e : CD i = V * 16) (v0 : 0 ≤ V) (v1 : V ≤ 9999) :
    Run (d + 2) 84 34 [vR 6, vR (25 + r0), .inl (dp : Int), .inl (i : Int), z3, z4] [] h = Run (d + 2) 84 34 [vR 6, vR (25 + r0), .inl ((dp + 1 : Nat) : Int), .inl ((i + 1 : Nat) : Int), .inl 0, .inl V] [] (up h 30 dp V) := by
  rw [st0 d v r4 s2 hi y3 y4 (V := V) (S := 0) (by rw [e]; omega) v0 v1 (by omega) (by omega), if_pos rfl, if_neg (by omega), if_pos (by omega), q84_98 (d + 1) r0 r4, if_neg (fun z => z rfl), if_pos (by omega), wI_ok (by omega) (by omega), wI_ok (by omega) (by omega), show ((dp : Nat) : Int).toNat = dp by omega]
  rfl
theorem st_let (d : Nat) {r0 sz : Nat} {CD LT : Nat → Int} {h : MH} (v : EV r0 sz CD LT h) (r4 : r0 < 4) (s2 : sz ≤ 240) {i : Nat} (hi : i < sz) {dp : Nat} (hdp : dp < 64) {z3 z4 : MV} (y3 : cat z3 = 1) (y4 : cat z4 = 1) {V : Int} (e : CD i = V * 16 + 1) (v0 : 0 ≤ V) (v1 : V ≤ 5) :
    Run (d + 2) 84 34 [vR 6, vR (25 + r0), .inl (dp : Int), .inl (i : Int), z3, z4] [] h = Run (d + 2) 84 34 [vR 6, vR (25 + r0), .inl ((dp + 1 : Nat) : Int), .inl ((i + 1 : Nat) : Int), .inl 1, .inl V] [] (up h 30 dp (LT V.toNat)) := by
  rw [st0 d v r4 s2 hi y3 y4 (V := V) (S := 1) e v0 (by omega) (by omega) (by omega), if_neg (by omega), if_neg (fun z => z rfl), if_neg (by omega), if_neg (fun z => z rfl), if_pos (by omega), q84_98 (d + 1) r0 r4, if_pos (by omega), if_pos (by omega), if_pos (by omega), wI_ok (by omega) (by omega), wI_ok (by omega) (by omega), show ((dp : Nat) : Int).toNat = dp by omega, v.2.2.2 V.toNat (by omega)]
  rfl
theorem st_not (d : Nat) {r0 sz : Nat} {CD LT : Nat → Int} {h : MH} (v : EV r0 sz CD LT h) (r4 : r0 < 4) (s2 : sz ≤ 240) {i : Nat} (hi : i < sz) {dp : Nat} (hdp : dp + 1 ≤ 64) {z3 z4 : MV} (y3 : cat z3 = 1) (y4 : cat z4 = 1) (e : CD i = 11) (b : h 30 dp = 0 ∨ h 30 dp = 1) :
    Run (d + 2) 84 34 [vR 6, vR (25 + r0), .inl ((dp + 1 : Nat) : Int), .inl (i : Int), z3, z4] [] h = Run (d + 2) 84 34 [vR 6, vR (25 + r0), .inl ((dp + 1 : Nat) : Int), .inl ((i + 1 : Nat) : Int), .inl 11, .inl 0] [] (up h 30 dp (1 - h 30 dp)) := by
  rw [st0 d v r4 s2 hi y3 y4 (V := 0) (S := 11) (by rw [e]; rfl) (by omega) (by omega) (by omega) (by omega), if_neg (by omega), if_pos (by omega), if_neg (fun z => z rfl), if_neg (by omega), wI_ok (x := ((dp + 1 : Nat) : Int) - 1) (by omega) (by omega), if_pos (by omega), if_pos (by omega), show (((dp + 1 : Nat) : Int) - 1).toNat = dp by omega, wI_ok (x := (i : Int) + 1) (by omega) (by omega), wI_ok (by omega) (by omega)]
  rfl
def opV (s x y : Int) : Int := if s ≤ 5 then jvF s x y else if s ≤ 8 then cvF s x y else if s = 9 then iAnd x y else iOr x y
def opB (s x y : Int) : Prop := ((s = 2 ∨ s = 3 ∨ s = 4 ∨ s = 5) ∧ (-1000000 ≤ x ∧ x ≤ 1000000) ∧ (-1000000 ≤ y ∧ y ≤ 1000000)) ∨ (s = 6 ∨ s = 7 ∨ s = 8) ∨ ((s = 9 ∨ s = 10) ∧ (x = 0 ∨ x = 1) ∧ (y = 0 ∨ y = 1))
theorem cM_b (v : Int) : -1000000 ≤ cM v ∧ cM v ≤ 1000000 := by
  have m : -1000000 ≤ mx (-1000000) (mn 1000000 v) ∧ mx (-1000000) (mn 1000000 v) ≤ 1000000 := by
    unfold mx mn
    split <;> split <;> omega
  unfold cM
  rw [wI_ok (by omega) (by omega)]
  exact m
theorem e_clamp (d : Nat) (h : MH) (v : Int) {z0 z1 z2 z4 : MV} (y0 : cat z0 = 1) (y1 : cat z1 = 1) (y2 : cat z2 = 1) (y4 : cat z4 = 1) : Run d 85 151 [z0, z1, z2, .inr (.inl v), z4] [] h = some (some (.inl (cM v)), h) := by
  rw [q85_151 (hz0 := y0) (hz1 := y1) (hz2 := y2) (hz4 := y4)]
  simp only [cmp_le, cmp_ge]
  unfold cM
  by_cases q1 : v ≤ 1000000
  · rw [if_pos q1]
    have m1 : mn 1000000 v = v := by
      unfold mn
      by_cases q3 : v < 1000000
      · rw [if_pos q3]
      · rw [if_neg q3]; omega
    by_cases q2 : -1000000 ≤ v
    · have m2 : mx (-1000000) v = v := by
        unfold mx
        by_cases q4 : -1000000 < v
        · rw [if_pos q4]
        · rw [if_neg q4]; omega
      rw [if_pos q2, m1, m2]
    · have m2 : mx (-1000000) v = -1000000 := by unfold mx; rw [if_neg (by omega)]
      rw [if_neg q2, m1, m2, wI_ok (by omega) (by omega)]
  · have m1 : mn 1000000 v = 1000000 := by unfold mn; rw [if_neg (by omega)]
    have m2 : mx (-1000000) 1000000 = 1000000 := by decide
    rw [if_neg q1, m1, m2, wI_ok (by omega) (by omega)]
theorem mul_b {x y : Int} (hx : -1000000 ≤ x ∧ x ≤ 1000000) (hy : -1000000 ≤ y ∧ y ≤ 1000000) : -1000000000000 ≤ x * y ∧ x * y ≤ 1000000000000 := by
  have h1 : (x * y).natAbs ≤ 1000000 * 1000000 := by
    rw [Int.natAbs_mul]
    exact Nat.mul_le_mul (by omega) (by omega)
  omega
theorem tdv_b {x y : Int} (hx : -1000000 ≤ x ∧ x ≤ 1000000) : -1000000 ≤ x.tdiv y ∧ x.tdiv y ≤ 1000000 := by
  have h1 : (x.tdiv y).natAbs ≤ 1000000 := by
    rw [Int.natAbs_tdiv]
    exact Nat.le_trans (Nat.div_le_self _ _) (by omega)
  omega
theorem e_joined (d : Nat) (h : MH) {s x y : Int} (b : opB s x y) : Run d 85 0 [.inl s, .inl x, .inl y, vU, vU] [] h = some (some (.inl (opV s x y)), h) := by
  have c0 : cM 0 = 0 := by decide +kernel
  have c1 : cM 1 = 1 := by decide +kernel
  have cl : ∀ v : Int, Run d 85 151 [.inl s, .inl x, .inl y, .inr (.inl v), vU] [] h = some (some (.inl (cM v)), h) := fun v => e_clamp d h v rfl rfl rfl rfl
  rw [q85_0]
  unfold opV
  rcases b with ⟨b1, b2, b3⟩ | b | ⟨b1, b2, b3⟩
  · have mb := mul_b b2 b3
    have tb := tdv_b (y := y) b2
    rcases b1 with rfl | rfl | rfl | rfl
    · rw [if_pos rfl, cl, if_pos (by omega), wI_ok (by omega) (by omega)]
      unfold jvF
      rw [if_pos rfl, wL_ok (by omega) (by omega)]
    · rw [if_neg (by omega), if_pos rfl, cl, if_pos (by omega), wI_ok (by omega) (by omega)]
      unfold jvF
      rw [if_neg (by omega), if_pos rfl, wL_ok (by omega) (by omega)]
    · rw [if_neg (by omega), if_neg (by omega), if_pos rfl, cl, if_pos (by omega)]
      rfl
    · rw [if_neg (by omega), if_neg (by omega), if_neg (by omega), if_pos rfl, if_pos (c := (5 : Int) ≤ 5) (by omega)]
      unfold jvF
      by_cases q : y = 0
      · rw [if_neg (fun z => z q), cl, if_neg (by omega), if_neg (by omega), if_neg (by omega), if_pos q]
      · rw [if_pos q, if_neg q, cl, if_neg (by omega), if_neg (by omega), if_neg (by omega), if_neg q, wI_ok (by omega) (by omega), wL_ok (by omega) (by omega)]
  · rcases b with rfl | rfl | rfl
    · rw [if_neg (by omega), if_neg (by omega), if_neg (by omega), if_neg (by omega), if_pos rfl, if_neg (c := (6 : Int) ≤ 5) (by omega), if_pos (c := (6 : Int) ≤ 8) (by omega), cv6]
      by_cases q : x = y
      · rw [if_neg (fun z => z q), cl, c1, bi_t q]
      · rw [if_pos q, cl, c0, bi_f q]
    · rw [if_neg (by omega), if_neg (by omega), if_neg (by omega), if_neg (by omega), if_neg (by omega), if_pos rfl, if_neg (c := (7 : Int) ≤ 5) (by omega), if_pos (c := (7 : Int) ≤ 8) (by omega), cv7]
      by_cases q : y ≤ x
      · rw [if_pos q, cl, c0, bi_f (by omega)]
      · rw [if_neg q, cl, c1, bi_t (by omega)]
    · rw [if_neg (by omega), if_neg (by omega), if_neg (by omega), if_neg (by omega), if_neg (by omega), if_neg (by omega), if_pos rfl, if_neg (c := (8 : Int) ≤ 5) (by omega), if_pos (c := (8 : Int) ≤ 8) (by omega), cv8]
      by_cases q : x ≤ y
      · rw [if_pos q, cl, c0, bi_f (by omega)]
      · rw [if_neg q, cl, c1, bi_t (by omega)]
  · have ca : cM (iAnd x y) = iAnd x y := by
      rcases b2 with rfl | rfl <;> rcases b3 with rfl | rfl <;> decide +kernel
    have co : cM (iOr x y) = iOr x y := by
      rcases b2 with rfl | rfl <;> rcases b3 with rfl | rfl <;> decide +kernel
    rcases b1 with rfl | rfl
    · rw [if_neg (by omega), if_neg (by omega), if_neg (by omega), if_neg (by omega), if_neg (by omega), if_neg (by omega), if_neg (by omega), if_pos rfl, if_neg (c := (9 : Int) ≤ 5) (by omega), if_neg (c := (9 : Int) ≤ 8) (by omega), if_pos rfl, cl, ca]
    · rw [if_neg (by omega), if_neg (by omega), if_neg (by omega), if_neg (by omega), if_neg (by omega), if_neg (by omega), if_neg (by omega), if_neg (by omega), if_pos rfl, if_neg (c := (10 : Int) ≤ 5) (by omega), if_neg (c := (10 : Int) ≤ 8) (by omega), if_neg (by omega), cl, co]
theorem st_op (d : Nat) {r0 sz : Nat} {CD LT : Nat → Int} {h : MH} (v : EV r0 sz CD LT h) (r4 : r0 < 4) (s2 : sz ≤ 240) {i : Nat} (hi : i < sz) {dp : Nat} (hdp : dp + 2 ≤ 64) {z3 z4 : MV} (y3 : cat z3 = 1) (y4 : cat z4 = 1) {s : Int} (e : CD i = s) (b : opB s (h 30 dp) (h 30 (dp + 1))) :
    Run (d + 2) 84 34 [vR 6, vR (25 + r0), .inl ((dp + 2 : Nat) : Int), .inl (i : Int), z3, z4] [] h = Run (d + 2) 84 34 [vR 6, vR (25 + r0), .inl ((dp + 1 : Nat) : Int), .inl ((i + 1 : Nat) : Int), .inl s, .inl 0] [] (up h 30 dp (opV s (h 30 dp) (h 30 (dp + 1)))) := by
  have sb : 2 ≤ s ∧ s ≤ 10 := by unfold opB at b; omega
  rw [st0 d v r4 s2 hi y3 y4 (V := 0) (S := s) (by rw [e]; omega) (by omega) (by omega) (by omega) (by omega), if_neg (by omega), if_pos (by omega), if_pos (by omega), q84_159 (d + 1) r0 r4, if_pos (by omega), if_pos (by omega), q84_218 (d + 1) r0 r4 (hz4 := rfl), if_neg (by omega), wI_ok (x := ((dp + 2 : Nat) : Int) + -1) (by omega) (by omega), wI_ok (x := ((dp + 2 : Nat) : Int) + -1 - 1) (by omega) (by omega), if_pos (by omega), if_pos (by omega), show (((dp + 2 : Nat) : Int) + -1 - 1).toNat = dp by omega, show (((dp + 2 : Nat) : Int) + -1).toNat = dp + 1 by omega, e_joined (d + 1) h b, cI_some, if_pos (by omega), wI_ok (by omega) (by omega), show ((dp + 2 : Nat) : Int) + -1 = ((dp + 1 : Nat) : Int) by omega]
  rfl
theorem st_ans (d : Nat) {r0 sz : Nat} {CD LT : Nat → Int} {h : MH} (v : EV r0 sz CD LT h) (r4 : r0 < 4) (s2 : sz ≤ 240) {i : Nat} (hi : i < sz) {z3 z4 : MV} (y3 : cat z3 = 1) (y4 : cat z4 = 1) (e : CD i = 13) :
    Run (d + 2) 84 34 [vR 6, vR (25 + r0), .inl 1, .inl (i : Int), z3, z4] [] h = some (some (.inl (h 30 0)), h) := by
  have s := st0 d v r4 s2 hi (dp := 1) y3 y4 (V := 0) (S := 13) (by rw [e]; rfl) (by omega) (by omega) (by omega) (by omega)
  have s' : Run (d + 2) 84 34 [vR 6, vR (25 + r0), .inl 1, .inl (i : Int), z3, z4] [] h = _ := s
  rw [s', if_neg (by omega), if_pos (by omega), if_pos (by omega), q84_159 (d + 1) r0 r4, if_pos (by omega), if_neg (fun z => z rfl), if_neg (by omega), wI_ok (by omega) (by omega), if_pos (by omega)]
  rfl
theorem st_tst (d : Nat) {r0 sz : Nat} {CD LT : Nat → Int} {h : MH} (v : EV r0 sz CD LT h) (r4 : r0 < 4) (s2 : sz ≤ 240) {i J : Nat} (hi : i < sz) {z3 z4 : MV} (y3 : cat z3 = 1) (y4 : cat z4 = 1) (e : CD i = (J : Int) * 16 + 12) (hJ : i + 1 ≤ J) (hJ2 : J ≤ 240) :
    Run (d + 2) 84 34 [vR 6, vR (25 + r0), .inl 1, .inl (i : Int), z3, z4] [] h = if ¬ h 30 0 = 0 then Run (d + 2) 84 34 [vR 6, vR (25 + r0), .inl ((0 : Nat) : Int), .inl ((i + 1 : Nat) : Int), .inl 12, .inl (J : Int)] [] h else Run (d + 2) 84 34 [vR 6, vR (25 + r0), .inl ((0 : Nat) : Int), .inl (J : Int), .inl 12, .inl (J : Int)] [] h := by
  have s := st0 d v r4 s2 hi (dp := 1) y3 y4 (V := J) (S := 12) e (by omega) (by omega) (by omega) (by omega)
  have s' : Run (d + 2) 84 34 [vR 6, vR (25 + r0), .inl 1, .inl (i : Int), z3, z4] [] h = _ := s
  have m : mx (i : Int) ((J : Int) - 1) = (J : Int) - 1 := by unfold mx; split <;> omega
  have w0 : wI (((1 : Nat) : Int) + (-1)) = 0 := wI_ok (by omega) (by omega)
  rw [s', if_neg (by omega), if_pos (by omega), if_pos (by omega), q84_159 (d + 1) r0 r4, if_neg (fun z => z rfl), if_neg (by omega), w0, if_pos (by omega), wI_ok (x := (i : Int) + 1) (by omega) (by omega), wI_ok (x := (J : Int) - 1) (by omega) (by omega), m, wI_ok (by omega) (by omega), show (J : Int) - 1 + 1 = J by omega]
  rfl
