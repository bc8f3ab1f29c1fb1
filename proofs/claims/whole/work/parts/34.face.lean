/-! faces -/
def faF (ff lit : Nat → Int) (f : Int) (k : Nat) : Int := if lit k = 0 then (if ff k = f then 2 else 7) else (if ff k = f then 8 else 3)
def prF (ff lit : Nat → Int) (f : Int) : Nat → Int
  | 0 => 1
  | k + 1 => prF ff lit f k * faF ff lit f k
theorem faF_b (ff lit : Nat → Int) (f : Int) (k : Nat) : 1 ≤ faF ff lit f k ∧ faF ff lit f k ≤ 8 := by
  unfold faF
  split <;> split <;> omega
theorem prF_b (ff lit : Nat → Int) (f : Int) : ∀ k, 1 ≤ prF ff lit f k ∧ prF ff lit f k ≤ 8 ^ k
  | 0 => by unfold prF; omega
  | k + 1 => by
    have h1 := prF_b ff lit f k
    have h2 := faF_b ff lit f k
    unfold prF
    constructor
    · have := Int.mul_le_mul h1.1 h2.1 (by omega) (by omega)
      omega
    · rw [Int.pow_succ]
      exact Int.mul_le_mul h1.2 h2.2 (by omega) (Int.pow_nonneg (by omega))
theorem p12 {k : Nat} (h : k ≤ 12) : (8 : Int) ^ k ≤ 68719476736 := by
  have : (8 : Nat) ^ k ≤ 8 ^ 12 := Nat.pow_le_pow_right (by omega) h
  have e : ((8 ^ k : Nat) : Int) = (8 : Int) ^ k := by simp
  rw [← e]
  have : (8 : Nat) ^ 12 = 68719476736 := by decide
  omega
theorem prF_12 (ff lit : Nat → Int) (f : Int) {k : Nat} (h : k ≤ 12) : 1 ≤ prF ff lit f k ∧ prF ff lit f k ≤ 68719476736 := by
  have := prF_b ff lit f k
  have := p12 h
  omega
theorem prF_congr {ff lit ff2 lit2 : Nat → Int} (f : Int) : ∀ n, (∀ k, k < n → ff2 k = ff k ∧ lit2 k = lit k) → prF ff2 lit2 f n = prF ff lit f n
  | 0, _ => rfl
  | n + 1, h => by
    unfold prF faF
    rw [prF_congr f n (fun k hk => h k (by omega)), (h n (by omega)).1, (h n (by omega)).2]
theorem wL_ok {x : Int} (h1 : -9223372036854775808 ≤ x) (h2 : x ≤ 9223372036854775807) : wL x = x := wL_id ⟨h1, h2⟩
theorem e_product (d : Nat) (x : Int) (h : MH) (h0 : 0 ≤ h 10 3) (h1 : h 10 3 ≤ 12) : Run d 161 0 [vR 10, .inl x, vU, vU, vU, vU] [] h = some (some (.inr (.inl (prF (h 48) (h 49) x (h 10 3).toNat))), h) := by
  rw [q161_0]
  have key : ∀ (k : Nat) (j : Int) (z : MV), 0 ≤ j → (h 10 3 - j).toNat = k → j ≤ h 10 3 → cat z = 1 → Run d 161 5 [vR 10, .inl x, .inr (.inl (prF (h 48) (h 49) x j.toNat)), vU, .inl j, z] [] h = some (some (.inr (.inl (prF (h 48) (h 49) x (h 10 3).toNat))), h) := by
    intro k
    induction k with
    | zero =>
      intro j z hj hk hjn hz
      rw [q161_5 (hz2 := rfl) (hz4 := hz), if_pos (by omega), show j = h 10 3 by omega]
    | succ k ih =>
      intro j z hj hk hjn hz
      have pb := prF_12 (h 48) (h 49) x (k := j.toNat) (by omega)
      have e1 : prF (h 48) (h 49) x (j + 1).toNat = prF (h 48) (h 49) x j.toNat * faF (h 48) (h 49) x j.toNat := by
        rw [show (j + 1).toNat = j.toNat + 1 by omega]; rfl
      rw [q161_5 (hz2 := rfl) (hz4 := hz), if_neg (by omega), if_pos (by omega)]
      by_cases q1 : h 48 j.toNat = x <;> by_cases q2 : h 49 j.toNat = 0
      · rw [if_neg (fun q => q q1), q161_30 (hz2 := rfl) (hz4 := hz), if_pos (by omega), if_pos q2, if_neg (by omega), wI_ok (by omega) (by omega), wL_ok (by omega) (by omega), ← ih (j + 1) (.inl 1) (by omega) (by omega) (by omega) rfl, e1]
        unfold faF
        rw [if_pos q2, if_pos q1]
      · rw [if_neg (fun q => q q1), q161_30 (hz2 := rfl) (hz4 := hz), if_pos (by omega), if_neg q2, if_neg (by omega), wI_ok (by omega) (by omega), wL_ok (by omega) (by omega), ← ih (j + 1) (.inl 1) (by omega) (by omega) (by omega) rfl, e1]
        unfold faF
        rw [if_neg q2, if_pos q1]
      · rw [if_pos q1, q161_30 (hz2 := rfl) (hz4 := hz), if_pos (by omega), if_pos q2, if_pos rfl, wI_ok (by omega) (by omega), wL_ok (by omega) (by omega), ← ih (j + 1) (.inl 0) (by omega) (by omega) (by omega) rfl, e1]
        unfold faF
        rw [if_pos q2, if_neg q1]
      · rw [if_pos q1, q161_30 (hz2 := rfl) (hz4 := hz), if_pos (by omega), if_neg q2, if_pos rfl, wI_ok (by omega) (by omega), wL_ok (by omega) (by omega), ← ih (j + 1) (.inl 0) (by omega) (by omega) (by omega) rfl, e1]
        unfold faF
        rw [if_neg q2, if_neg q1]
  exact key _ 0 vU (by omega) rfl h0 rfl
theorem m_weightFor (d : Nat) (x : Int) (h : MH) (h0 : 0 ≤ h 97 49) (h1 : h 97 49 ≤ 12) : Run d 292 0 [vR 97, .inl x, vU, vU, vU, vU] [] h = some (some (.inr (.inl (prF (h 117) (h 118) x (h 97 49).toNat))), h) := by
  rw [q292_0]
  have key : ∀ (k : Nat) (j : Int) (z : MV), 0 ≤ j → (h 97 49 - j).toNat = k → j ≤ h 97 49 → cat z = 1 → Run d 292 5 [vR 97, .inl x, .inr (.inl (prF (h 117) (h 118) x j.toNat)), vU, .inl j, z] [] h = some (some (.inr (.inl (prF (h 117) (h 118) x (h 97 49).toNat))), h) := by
    intro k
    induction k with
    | zero =>
      intro j z hj hk hjn hz
      rw [q292_5 (hz2 := rfl) (hz4 := hz), if_pos (by omega), show j = h 97 49 by omega]
    | succ k ih =>
      intro j z hj hk hjn hz
      have pb := prF_12 (h 117) (h 118) x (k := j.toNat) (by omega)
      have e1 : prF (h 117) (h 118) x (j + 1).toNat = prF (h 117) (h 118) x j.toNat * faF (h 117) (h 118) x j.toNat := by
        rw [show (j + 1).toNat = j.toNat + 1 by omega]; rfl
      rw [q292_5 (hz2 := rfl) (hz4 := hz), if_neg (by omega), if_pos (by omega)]
      by_cases q1 : h 117 j.toNat = x <;> by_cases q2 : h 118 j.toNat = 0
      · rw [if_neg (fun q => q q1), q292_31 (hz2 := rfl) (hz4 := hz), if_pos (by omega), if_pos q2, wI_ok (x := j + 1) (by omega) (by omega), wI_ok (by omega) (by omega), show (10 : Int) - 8 = 2 by omega, wL_ok (by omega) (by omega), ← ih (j + 1) (.inl 8) (by omega) (by omega) (by omega) rfl, e1]
        unfold faF
        rw [if_pos q2, if_pos q1]
      · rw [if_neg (fun q => q q1), q292_31 (hz2 := rfl) (hz4 := hz), if_pos (by omega), if_neg q2, wI_ok (x := j + 1) (by omega) (by omega), wL_ok (by omega) (by omega), ← ih (j + 1) (.inl 8) (by omega) (by omega) (by omega) rfl, e1]
        unfold faF
        rw [if_neg q2, if_pos q1]
      · rw [if_pos q1, q292_31 (hz2 := rfl) (hz4 := hz), if_pos (by omega), if_pos q2, wI_ok (x := j + 1) (by omega) (by omega), wI_ok (by omega) (by omega), show (10 : Int) - 3 = 7 by omega, wL_ok (by omega) (by omega), ← ih (j + 1) (.inl 3) (by omega) (by omega) (by omega) rfl, e1]
        unfold faF
        rw [if_pos q2, if_neg q1]
      · rw [if_pos q1, q292_31 (hz2 := rfl) (hz4 := hz), if_pos (by omega), if_neg q2, wI_ok (x := j + 1) (by omega) (by omega), wL_ok (by omega) (by omega), ← ih (j + 1) (.inl 3) (by omega) (by omega) (by omega) rfl, e1]
        unfold faF
        rw [if_neg q2, if_neg q1]
  exact key _ 0 vU (by omega) rfl h0 rfl
/-- all forts' weights -/
def smF (ff lit : Nat → Int) (n : Nat) : Nat → Int
  | 0 => 0
  | k + 1 => smF ff lit n k + prF ff lit k n
theorem smF_succ (ff lit : Nat → Int) (n k : Nat) : smF ff lit n (k + 1) = smF ff lit n k + prF ff lit k n := rfl
theorem smF_b (ff lit : Nat → Int) {n : Nat} (hn : n ≤ 12) : ∀ k : Nat, (k : Int) ≤ smF ff lit n k ∧ smF ff lit n k ≤ 68719476736 * k
  | 0 => by unfold smF; omega
  | k + 1 => by
    have h1 := smF_b ff lit hn k
    have h2 := prF_12 ff lit k hn
    unfold smF
    omega
theorem smF_ge (ff lit : Nat → Int) {n : Nat} (hn : n ≤ 12) (f : Nat) : ∀ k, f < k → prF ff lit f n ≤ smF ff lit n k
  | 0, h => by omega
  | k + 1, h => by
    have h1 := smF_b ff lit hn k
    have h2 := prF_12 ff lit k hn
    unfold smF
    by_cases q : f = k
    · subst q; omega
    · have := smF_ge ff lit hn f k (by omega)
      omega
theorem smF_congr {ff lit ff2 lit2 : Nat → Int} {n : Nat} (h : ∀ k, k < n → ff2 k = ff k ∧ lit2 k = lit k) : ∀ k, smF ff2 lit2 n k = smF ff lit n k
  | 0 => rfl
  | k + 1 => by
    unfold smF
    rw [smF_congr h k, prF_congr _ n h]
def mtF (ff lit : Nat → Int) (n : Nat) (f : Nat) (x : Int) : Int := (prF ff lit x n * 1000000).tdiv (smF ff lit n f)
theorem mtF_b (ff lit : Nat → Int) {n f : Nat} (hn : n ≤ 12) {x : Int} (h0 : 0 ≤ x) (h1 : x < f) : 0 ≤ mtF ff lit n f x ∧ mtF ff lit n f x ≤ 1000000 := by
  have h2 := prF_12 ff lit x hn
  have h3 := smF_ge ff lit hn x.toNat f (by omega)
  rw [show ((x.toNat : Nat) : Int) = x by omega] at h3
  have h4 := smF_b ff lit hn f
  unfold mtF
  rw [Int.tdiv_eq_ediv_of_nonneg (by omega)]
  constructor
  · exact Int.ediv_nonneg (by omega) (by omega)
  · apply Int.le_of_lt_add_one
    apply Int.ediv_lt_of_lt_mul (by omega)
    omega
theorem e_partsFor (d : Nat) (x : Int) (h : MH) (g0 : 0 ≤ h 10 3) (g1 : h 10 3 ≤ 12) (h0 : 0 ≤ x) (h1 : x < h 2 3) (h2 : h 2 3 ≤ 8) : Run (d + 1) 160 0 [vR 10, .inl x, vU, vU, vU] [] h = some (some (.inl (mtF (h 48) (h 49) (h 10 3).toNat (h 2 3).toNat x)), h) := by
  rw [q160_0]
  have key : ∀ (k : Nat) (j : Int), 0 ≤ j → (h 2 3 - j).toNat = k → j ≤ h 2 3 → Run (d + 1) 160 5 [vR 10, .inl x, .inr (.inl (smF (h 48) (h 49) (h 10 3).toNat j.toNat)), vU, .inl j] [] h = some (some (.inl (mtF (h 48) (h 49) (h 10 3).toNat (h 2 3).toNat x)), h) := by
    intro k
    induction k with
    | zero =>
      intro j hj hk hjn
      have e : j = h 2 3 := by omega
      have sb := smF_b (h 48) (h 49) (n := (h 10 3).toNat) (by omega) (h 2 3).toNat
      have pb := prF_12 (h 48) (h 49) x (k := (h 10 3).toNat) (by omega)
      have mb := mtF_b (h 48) (h 49) (n := (h 10 3).toNat) (f := (h 2 3).toNat) (by omega) h0 (by omega)
      rw [q160_5 (hz2 := rfl), if_pos (by omega), if_pos (by rw [cmp_eq, e]; omega), e_product _ _ _ g0 g1, cJ_some, if_neg (by rw [e]; omega), e, wL_ok (x := _ * 1000000) (by omega) (by omega)]
      unfold mtF at mb ⊢
      rw [wL_ok (by omega) (by omega), wI_ok (by omega) (by omega)]
    | succ k ih =>
      intro j hj hk hjn
      have sb := smF_b (h 48) (h 49) (n := (h 10 3).toNat) (by omega) j.toNat
      have pb := prF_12 (h 48) (h 49) j (k := (h 10 3).toNat) (by omega)
      rw [q160_5 (hz2 := rfl), if_neg (by omega), e_product _ _ _ g0 g1, cJ_some, wI_ok (by omega) (by omega), wL_ok (by omega) (by omega), ← ih (j + 1) (by omega) (by omega) (by omega), show (j + 1).toNat = j.toNat + 1 by omega]
      rw [smF_succ, show ((j.toNat : Nat) : Int) = j by omega]
  exact key _ 0 (by omega) rfl (by omega)
theorem m_meantFor (d : Nat) (x : Int) (h : MH) (g0 : 0 ≤ h 97 49) (g1 : h 97 49 ≤ 12) (h0 : 0 ≤ x) (h1 : x < h 97 26) (h2 : h 97 26 ≤ 8) : Run (d + 1) 291 0 [vR 97, .inl x, vU, vU, vU] [] h = some (some (.inl (mtF (h 117) (h 118) (h 97 49).toNat (h 97 26).toNat x)), h) := by
  rw [q291_0]
  have key : ∀ (k : Nat) (j : Int), 0 ≤ j → (h 97 26 - j).toNat = k → j ≤ h 97 26 → Run (d + 1) 291 5 [vR 97, .inl x, .inr (.inl (smF (h 117) (h 118) (h 97 49).toNat j.toNat)), vU, .inl j] [] h = some (some (.inl (mtF (h 117) (h 118) (h 97 49).toNat (h 97 26).toNat x)), h) := by
    intro k
    induction k with
    | zero =>
      intro j hj hk hjn
      have e : j = h 97 26 := by omega
      have sb := smF_b (h 117) (h 118) (n := (h 97 49).toNat) (by omega) (h 97 26).toNat
      have pb := prF_12 (h 117) (h 118) x (k := (h 97 49).toNat) (by omega)
      have mb := mtF_b (h 117) (h 118) (n := (h 97 49).toNat) (f := (h 97 26).toNat) (by omega) h0 (by omega)
      rw [q291_5 (hz2 := rfl), if_pos (by omega), m_weightFor _ _ _ g0 g1, cJ_some, if_neg (by rw [e]; omega), e, wL_ok (x := 1000000 * _) (by omega) (by omega), Int.mul_comm]
      unfold mtF at mb ⊢
      rw [wL_ok (by omega) (by omega), wI_ok (by omega) (by omega)]
    | succ k ih =>
      intro j hj hk hjn
      have sb := smF_b (h 117) (h 118) (n := (h 97 49).toNat) (by omega) j.toNat
      have pb := prF_12 (h 117) (h 118) j (k := (h 97 49).toNat) (by omega)
      rw [q291_5 (hz2 := rfl), if_neg (by omega), m_weightFor _ _ _ g0 g1, cJ_some, wI_ok (by omega) (by omega), wL_ok (by omega) (by omega), ← ih (j + 1) (by omega) (by omega) (by omega), show (j + 1).toNat = j.toNat + 1 by omega]
      rw [smF_succ, show ((j.toNat : Nat) : Int) = j by omega]
  exact key _ 0 (by omega) rfl (by omega)
theorem mtF_e {b : Int} {h : MH} (i : Inv0 b h) (x : Int) : mtF (h 117) (h 118) (h 97 49).toNat (h 97 26).toNat x = mtF (h 48) (h 49) (h 10 3).toNat (h 2 3).toNat x := by
  obtain ⟨l1, l2, l3, l4, l5, l6, l7⟩ := lg_n i
  obtain ⟨-, -, -, -, -, ⟨-, ⟨t1, t2, t3⟩, -, t4⟩, -⟩ := (Inv0_iff b h).mp i
  rw [l1, t1]
  unfold mtF
  have e : ∀ k, k < (h 10 3).toNat → h 117 k = h 48 k ∧ h 118 k = h 49 k := fun k hk => ⟨(t4 k (by omega)).1, (t4 k (by omega)).2.1⟩
  rw [prF_congr x _ e, smF_congr e]
theorem c_meant {b : Int} {h : MH} (i : Inv0 b h) (x : Int) : Pr b b 159 290 [vR 0, .inl x] [vR 97, .inl x] h := by
  apply Pr_ro i
  obtain ⟨l1, l2, l3, l4, l5, l6, l7⟩ := lg_n i
  obtain ⟨-, -, -, -, -, ⟨-, ⟨t1, t2, t3⟩, -, t4⟩, -⟩ := (Inv0_iff b h).mp i
  rw [q159_0, q290_0]
  simp only [e_hasFort, m_isFort, cI_some, bi_0, bi_ne, bi_1, Classical.not_not, up_s, up_a, up_i, ne_eq, Nat.reduceEqDiff, not_false_eq_true, l1]
  by_cases q : 0 ≤ x ∧ x < h 2 3
  · rw [if_neg (fun z => z q), if_neg (fun z => z q), e_partsFor _ _ _ t2 t3 q.1 q.2 l4, m_meantFor _ _ _ (by rw [up_i (by omega)]; omega) (by rw [up_i (by omega)]; omega) q.1 (by rw [up_i (by omega)]; omega) (by rw [up_i (by omega)]; omega), cI_some, cI_some]
    apply Bo_ret
    exact (mtF_e i x).symm
  · rw [if_pos q, if_pos q]
    exact Bo_ret rfl
