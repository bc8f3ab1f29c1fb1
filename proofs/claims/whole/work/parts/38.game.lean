/-! who is shot and who waits; faces and sights that are told -/
def gnF (w p x y : Int) : Int := 
  let g := if wI (x + y) ≤ 0 then 0 else 6
  if ¬ x = 1 then (if ¬ wI (x + y) = 2 then g else wI (g - 2)) else (if ¬ wI (x + y) = 2 then wI (g - wI (wI (p.tdiv 2) + wI (w.tdiv 3))) else wI (wI (g - wI (wI (p.tdiv 2) + wI (w.tdiv 3))) - 2))
theorem e_gained (d : Nat) (c p x y : Int) (h : MH) (h0 : 0 ≤ c) (h1 : c < 5) : Run (d + 1) 166 0 [vR 0, .inl c, .inl p, .inl x, .inl y, vU] [] h = some (some (.inl (gnF (h 18 (3 * c).toNat) p x y)), h) := by
  rw [q166_0]
  unfold gnF
  by_cases q : wI (x + y) ≤ 0
  · simp only [if_pos q]
    rw [q166_13 (hz4 := rfl), e_weight _ _ _ h0 h1, cI_some]
    split <;> split <;> rfl
  · simp only [if_neg q]
    rw [q166_13 (hz4 := rfl), e_weight _ _ _ h0 h1, cI_some]
    split <;> split <;> rfl
theorem m_gameOf (d : Nat) (c p x y : Int) (h : MH) (h0 : 0 ≤ c) (h1 : c < 5) : Run (d + 1) 287 0 [vR 97, .inl c, .inl p, .inl x, .inl y, vU] [] h = some (some (.inl (gnF (h 106 (3 * c).toNat) p x y)), h) := by
  rw [q287_0]
  unfold gnF
  by_cases q : wI (x + y) ≤ 0
  · simp only [if_pos q]
    rw [q287_13 (hz4 := rfl), m_told _ _ _ _ h0 h1 (by omega) (by omega), cI_some, Int.add_zero]
    split <;> split <;> rfl
  · simp only [if_neg q]
    rw [q287_13 (hz4 := rfl), m_told _ _ _ _ h0 h1 (by omega) (by omega), cI_some, Int.add_zero]
    split <;> split <;> rfl
theorem e_isPair (d : Nat) (x y : Int) (h : MH) : Run (d + 1) 145 0 [vR 0, .inl x, .inl y] [] h = some (some (.inl (bi ((0 ≤ x ∧ x < h 2 4) ∧ (0 ≤ y ∧ y < h 2 4) ∧ ¬ x = y))), h) := by
  rw [q145_0]
  simp only [e_hasCarrier, cI_some, bi_0, bi_ne, bi_1, Classical.not_not]
  by_cases q1 : 0 ≤ x ∧ x < h 2 4 <;> by_cases q2 : 0 ≤ y ∧ y < h 2 4 <;> by_cases q3 : x = y <;> simp [q1, q2, q3, bi]
theorem e_isGamePowder (d : Nat) (x : Int) (h : MH) : Run (d + 1) 165 0 [.inl x] [] h = some (some (.inl (bi (0 ≤ x ∧ x ≤ 20))), h) := by
  rw [q165_0]
  simp only [e_isPowder, cI_some, bi_0, bi_ne, bi_1, Classical.not_not]
  by_cases q1 : x = 0
  · rw [if_pos q1, bi_t (by omega)]
  · rw [if_neg q1]
    by_cases q2 : 1 ≤ x ∧ x ≤ 20
    · rw [if_neg (fun z => z q2), bi_t (by omega)]
    · rw [if_pos q2, bi_f (by omega)]
theorem m_isGame (d : Nat) (x y z : Int) (h : MH) : Run (d + 1) 286 0 [vR 97, .inl x, .inl y, .inl z] [] h = some (some (.inl (bi (((0 ≤ x ∧ x < h 97 27) ∧ (0 ≤ y ∧ y < h 97 27) ∧ ¬ x = y) ∧ (0 ≤ z ∧ z ≤ 20)))), h) := by
  rw [q286_0]
  simp only [m_isCarrier, m_isIn, cI_some, bi_0, bi_ne, bi_1, Classical.not_not]
  by_cases q1 : 0 ≤ x ∧ x < h 97 27 <;> by_cases q2 : 0 ≤ y ∧ y < h 97 27 <;> by_cases q3 : x = y <;> by_cases q4 : 0 ≤ z ∧ z ≤ 20 <;> simp [q1, q2, q3, q4, bi]
theorem c_game {b : Int} {h : MH} (i : Inv0 b h) (x y p u v w : Int) : Pr b b 164 285 [vR 0, .inl x, .inl y, .inl p, .inl u, .inl v, .inl w] [vR 97, .inl x, .inl y, .inl p, .inl u, .inl v, .inl w] h := by
  apply Pr_ro i
  obtain ⟨l1, l2, l3, l4, l5, l6, l7⟩ := lg_n i
  rw [q164_0, q285_0]
  simp only [e_isPair, e_isGamePowder, e_isWay, m_isGame, m_isIn, cI_some, bi_0, bi_ne, bi_1, Classical.not_not, up_s, up_a, up_i, ne_eq, Nat.reduceEqDiff, not_false_eq_true, l2]
  by_cases q : (0 ≤ x ∧ x < h 2 4) ∧ (0 ≤ y ∧ y < h 2 4) ∧ ¬ x = y
  · have q1 : 0 ≤ x ∧ x < 5 := by omega
    have q2 : 0 ≤ y ∧ y < 5 := by omega
    have g1 := lg_carrier i (3 * x) (by omega) (by omega)
    have g2 := lg_carrier i (3 * y) (by omega) (by omega)
    rw [e_gained _ _ _ _ _ _ q1.1 q1.2, e_gained _ _ _ _ _ _ q2.1 q2.2, m_gameOf _ _ _ _ _ _ q1.1 q1.2, m_gameOf _ _ _ _ _ _ q2.1 q2.2]
    simp only [up_s, up_a, up_i, ne_eq, Nat.reduceEqDiff, not_false_eq_true, cI_some, g1, g2]
    repeat' (first | (apply Bo_if <;> intro _) | (apply Bo_if2 <;> intro _))
    all_goals first | (exfalso; omega) | (apply Bo_ret; first | rfl | omega | (congr 1; omega))
  · repeat' (first | (apply Bo_if <;> intro _) | (apply Bo_if2 <;> intro _))
    all_goals first | (exfalso; omega) | exact Bo_ret rfl
/-- the rests -/
def stF (w1 w2 p x y : Int) : Prop := gnF w1 p (1 - x) y ≤ gnF w1 p x y ∧ gnF w2 p (1 - y) x ≤ gnF w2 p y x
theorem e_rests1 (d : Nat) (x y p i n u v : Int) (z : MV) (hz : cat z = 1) (h : MH) (hx0 : 0 ≤ x) (hx1 : x < 5) (hy0 : 0 ≤ y) (hy1 : y < 5) (hn0 : 0 ≤ n) (hn1 : n ≤ 100) (hu : u = 0 ∨ u = 1) (hv : v = 0 ∨ v = 1) : ∃ z2, cat z2 = 1 ∧ ((¬ stF (h 18 (3 * x).toNat) (h 18 (3 * y).toNat) p u v → Run (d + 1 + 1) 167 33 [vR 0, .inl x, .inl y, .inl p, .inl i, .inl n, .inl u, .inl v, z] [] h = Run (d + 1 + 1) 167 33 [vR 0, .inl x, .inl y, .inl p, .inl i, .inl n, .inl u, .inl (v + 1), z2] [] h) ∧
    (stF (h 18 (3 * x).toNat) (h 18 (3 * y).toNat) p u v → n ≠ i → Run (d + 1 + 1) 167 33 [vR 0, .inl x, .inl y, .inl p, .inl i, .inl n, .inl u, .inl v, z] [] h = Run (d + 1 + 1) 167 33 [vR 0, .inl x, .inl y, .inl p, .inl i, .inl (n + 1), .inl u, .inl (v + 1), z2] [] h) ∧
    (stF (h 18 (3 * x).toNat) (h 18 (3 * y).toNat) p u v → n = i → Run (d + 1 + 1) 167 33 [vR 0, .inl x, .inl y, .inl p, .inl i, .inl n, .inl u, .inl v, z] [] h = some (some (.inl (10 * u + v)), h))) := by
  have e : Run (d + 1 + 1) 167 33 [vR 0, .inl x, .inl y, .inl p, .inl i, .inl n, .inl u, .inl v, z] [] h = Run (d + 1 + 1) 167 94 [vR 0, .inl x, .inl y, .inl p, .inl i, .inl n, .inl u, .inl v, z] [.inl (if gnF (h 18 (3 * x).toNat) p (1 - u) v ≤ gnF (h 18 (3 * x).toNat) p u v ∧ gnF (h 18 (3 * y).toNat) p (1 - v) u ≤ gnF (h 18 (3 * y).toNat) p v u then 1 else 0)] h := by
    rw [q167_33 (hz7 := hz), if_neg (by omega), wI_ok (x := 1 - u) (by omega) (by omega), wI_ok (x := 1 - v) (by omega) (by omega)]
    simp (disch := omega) only [e_gained, cI_some]
    by_cases q1 : gnF (h 18 (3 * x).toNat) p u v < gnF (h 18 (3 * x).toNat) p (1 - u) v
    · rw [if_pos q1, if_neg (by omega)]
    · rw [if_neg q1]
      by_cases q2 : gnF (h 18 (3 * y).toNat) p v u < gnF (h 18 (3 * y).toNat) p (1 - v) u
      · rw [if_pos q2, if_neg (by omega)]
      · rw [if_neg q2, if_pos (by omega)]
  rw [e]
  unfold stF
  by_cases q : gnF (h 18 (3 * x).toNat) p (1 - u) v ≤ gnF (h 18 (3 * x).toNat) p u v ∧ gnF (h 18 (3 * y).toNat) p (1 - v) u ≤ gnF (h 18 (3 * y).toNat) p v u
  · refine ⟨.inl 1, rfl, fun z => absurd q z, fun _ hn => ?_, fun _ hn => ?_⟩
    · rw [if_pos q, q167_94 (hz7 := hz), if_neg (by omega), if_pos hn, if_neg (by omega), wI_ok (by omega) (by omega), wI_ok (by omega) (by omega)]
    · rw [if_pos q, q167_94 (hz7 := hz), if_neg (by omega), if_neg (fun z => z hn), wI_ok (x := 10 * u) (by omega) (by omega), wI_ok (by omega) (by omega)]
  · refine ⟨.inl 0, rfl, fun _ => ?_, fun z => absurd z q, fun z => absurd z q⟩
    rw [if_neg q, q167_94 (hz7 := hz), if_pos rfl, if_pos rfl, wI_ok (by omega) (by omega), wI_ok (by omega) (by omega), Int.add_zero]
theorem m_rests1 (d : Nat) (x y p i n k : Int) (z z' : MV) (hz : cat z = 1) (hz' : cat z' = 1) (h : MH) (hx0 : 0 ≤ x) (hx1 : x < 5) (hy0 : 0 ≤ y) (hy1 : y < 5) (hn0 : 0 ≤ n) (hn1 : n ≤ 100) (hk0 : 0 ≤ k) (hk1 : k < 4) : ∃ z2 z3, cat z2 = 1 ∧ cat z3 = 1 ∧ ((¬ stF (h 106 (3 * x).toNat) (h 106 (3 * y).toNat) p (k / 2) (k % 2) → Run (d + 1 + 1) 288 29 [vR 97, .inl x, .inl y, .inl p, .inl i, .inl n, .inl k, z, z'] [] h = Run (d + 1 + 1) 288 29 [vR 97, .inl x, .inl y, .inl p, .inl i, .inl n, .inl (k + 1), z2, z3] [] h) ∧
    (stF (h 106 (3 * x).toNat) (h 106 (3 * y).toNat) p (k / 2) (k % 2) → n ≠ i → Run (d + 1 + 1) 288 29 [vR 97, .inl x, .inl y, .inl p, .inl i, .inl n, .inl k, z, z'] [] h = Run (d + 1 + 1) 288 29 [vR 97, .inl x, .inl y, .inl p, .inl i, .inl (n + 1), .inl (k + 1), z2, z3] [] h) ∧
    (stF (h 106 (3 * x).toNat) (h 106 (3 * y).toNat) p (k / 2) (k % 2) → n = i → Run (d + 1 + 1) 288 29 [vR 97, .inl x, .inl y, .inl p, .inl i, .inl n, .inl k, z, z'] [] h = some (some (.inl (10 * (k / 2) + k % 2)), h))) := by
  have t1 : k.tdiv 2 = k / 2 := Int.tdiv_eq_ediv_of_nonneg (by omega)
  have t2 : k.tmod 2 = k % 2 := Int.tmod_eq_emod_of_nonneg (by omega)
  refine ⟨.inl (k / 2), .inl (k % 2), rfl, rfl, ?_⟩
  rw [q288_29 (hz6 := hz) (hz7 := hz'), if_neg (by omega), t1, t2, wI_ok (x := k / 2) (by omega) (by omega), wI_ok (x := 1 - k / 2) (by omega) (by omega), wI_ok (x := 1 - k % 2) (by omega) (by omega), wI_ok (x := k + 1) (by omega) (by omega), wI_ok (x := n + 1) (by omega) (by omega), wI_ok (x := 10 * (k / 2)) (by omega) (by omega), wI_ok (x := 10 * (k / 2) + k % 2) (by omega) (by omega)]
  simp (disch := omega) only [m_gameOf, cI_some]
  unfold stF
  refine ⟨fun q => ?_, fun q hn => ?_, fun q hn => ?_⟩
  · by_cases q1 : gnF (h 106 (3 * x).toNat) p (k / 2) (k % 2) < gnF (h 106 (3 * x).toNat) p (1 - k / 2) (k % 2)
    · rw [if_pos q1]
    · rw [if_neg q1, if_neg (by omega)]
  · rw [if_neg (by omega), if_pos (by omega), if_pos hn]
  · rw [if_neg (by omega), if_pos (by omega), if_neg (fun z => z hn)]
/-- both go on in the same way, or end alike -/
theorem rests_step {x y p i n u v k : Int} {z z1 z2 : MV} {h : MH} {w1 w2 : Int} (hz : cat z = 1) (hz1 : cat z1 = 1) (hz2 : cat z2 = 1) (hx0 : 0 ≤ x) (hx1 : x < 5) (hy0 : 0 ≤ y) (hy1 : y < 5) (hn0 : 0 ≤ n) (hn1 : n ≤ 50) (hu : u = k / 2) (hv : v = k % 2) (hk0 : 0 ≤ k) (hk1 : k < 4) (e1 : h 106 (3 * x).toNat = h 18 (3 * x).toNat) (e2 : h 106 (3 * y).toNat = h 18 (3 * y).toNat)
    (nx : ∀ n2 w w1 w2, cat w = 1 → cat w1 = 1 → cat w2 = 1 → n ≤ n2 → n2 ≤ n + 1 → Bo (Run 40 167 33 [vR 0, .inl x, .inl y, .inl p, .inl i, .inl n2, .inl u, .inl (v + 1), w] [] h) (Run 40 288 29 [vR 97, .inl x, .inl y, .inl p, .inl i, .inl n2, .inl (k + 1), w1, w2] [] (up h 97 0 0)) h (up h 97 0 0)) :
    Bo (Run 40 167 33 [vR 0, .inl x, .inl y, .inl p, .inl i, .inl n, .inl u, .inl v, z] [] h) (Run 40 288 29 [vR 97, .inl x, .inl y, .inl p, .inl i, .inl n, .inl k, z1, z2] [] (up h 97 0 0)) h (up h 97 0 0) := by
  obtain ⟨a, a1, a2, a3, a4⟩ := e_rests1 38 x y p i n u v z hz h hx0 hx1 hy0 hy1 hn0 (by omega) (by omega) (by omega)
  obtain ⟨b1, b2, b3, b4, b5, b6, b7⟩ := m_rests1 38 x y p i n k z1 z2 hz1 hz2 (up h 97 0 0) hx0 hx1 hy0 hy1 hn0 (by omega) hk0 hk1
  rw [up_a (by omega), up_a (by omega), e1, e2, ← hu, ← hv] at b5 b6 b7
  by_cases q : stF (h 18 (3 * x).toNat) (h 18 (3 * y).toNat) p u v
  · by_cases qn : n = i
    · rw [a4 q qn, b7 q qn]
      exact Bo_ret rfl
    · rw [a3 q qn, b6 q qn]
      exact nx _ _ _ _ a1 b3 b4 (by omega) (by omega)
  · rw [a2 q, b5 q]
    exact nx _ _ _ _ a1 b3 b4 (by omega) (by omega)
