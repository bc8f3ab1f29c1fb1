/-! items of a clause: those from f0 on, n of them -/
def ixN (f0 : Nat) (x : Int) : Nat → Nat → Int
  | 0, _ => -1
  | r + 1, k => if chF 131 (f0 + k) = x then (k : Int) else ixN f0 x r (k + 1)
theorem ix_b (f0 : Nat) (x : Int) : ∀ (r k : Nat), ixN f0 x r k = -1 ∨ ((k : Int) ≤ ixN f0 x r k ∧ ixN f0 x r k < k + r)
  | 0, _ => Or.inl rfl
  | r + 1, k => by
    unfold ixN
    by_cases q : chF 131 (f0 + k) = x
    · rw [if_pos q]; exact Or.inr (by omega)
    · rw [if_neg q]
      have := ix_b f0 x r (k + 1)
      omega
theorem ix_no (f0 : Nat) (x : Int) : ∀ (r k : Nat), (∀ j, k ≤ j → j < k + r → chF 131 (f0 + j) ≠ x) → ixN f0 x r k = -1
  | 0, _, _ => rfl
  | r + 1, k, h => by
    unfold ixN
    rw [if_neg (h k (by omega) (by omega))]
    exact ix_no f0 x r (k + 1) (fun j h1 h2 => h j (by omega) (by omega))
theorem ch131 {k : Nat} (hk : k < 10) : 97 ≤ chF 131 k ∧ chF 131 k ≤ 122 := by
  have r : ∀ k : Fin 10, 97 ≤ chF 131 k ∧ chF 131 k ≤ 122 := by decide +kernel
  exact r ⟨k, hk⟩
theorem ix_ng {T : Nat → Int} {L p f0 n : Nat} (x : txOK T L) (hn : f0 + n ≤ 10) : ixN f0 (ngF T L p) n 0 = ixN f0 (lkG T L p) n 0 := by
  unfold ngF lkG l8F
  by_cases q : p < L
  · rw [if_pos q, if_pos q]
    have b := x p q
    by_cases q2 : T p < 0
    · rw [if_pos q2, ix_no, ix_no]
      · intro j h1 h2 z; have := ch131 (k := f0 + j) (by omega); omega
      · intro j h1 h2 z; have := ch131 (k := f0 + j) (by omega); omega
    · rw [if_neg q2]
  · rw [if_neg q, if_neg q, ix_no, ix_no]
    · intro j h1 h2 z; have := ch131 (k := f0 + j) (by omega); omega
    · intro j h1 h2 z; have := ch131 (k := f0 + j) (by omega); omega
theorem ix_L {T : Nat → Int} {L p f0 n : Nat} (hn : f0 + n ≤ 10) (h : ¬ ixN f0 (lkG T L p) n 0 = -1) : p < L := by
  apply Classical.byContradiction
  intro q
  apply h
  unfold lkG
  rw [if_neg q, ix_no]
  intro j h1 h2 z
  have := ch131 (k := f0 + j) (by omega)
  omega
theorem e_itemOf (d : Nat) (h : MH) (x : Int) {f0 n : Nat} (hn : f0 + n ≤ 10) : Run (d + 5) 11 0 [.inl x, .inl (f0 : Int), .inl ((f0 + n : Nat) : Int), vU] [] h = some (some (.inl (if ixN f0 x n 0 = -1 then -1 else f0 + ixN f0 x n 0)), h) := by
  have key : ∀ (r k : Nat), k + r = n → Run (d + 5) 11 2 [.inl x, .inl (f0 : Int), .inl ((f0 + n : Nat) : Int), .inl ((f0 + k : Nat) : Int)] [] h = some (some (.inl (if ixN f0 x r k = -1 then -1 else f0 + ixN f0 x r k)), h) := by
    intro r
    induction r with
    | zero =>
      intro k hk
      rw [q11_2 (hz1 := rfl), if_pos (by omega)]
      unfold ixN
      rw [if_pos rfl]
    | succ r ih =>
      intro k hk
      rw [q11_2 (hz1 := rfl), if_neg (by omega), s_at124 d h (by omega), cI_some]
      unfold ixN
      by_cases q : chF 131 (f0 + k) = x
      · rw [if_neg (fun z => z q), if_pos q, if_neg (by omega)]
        rfl
      · rw [if_pos q, if_neg q, wI_ok (by omega) (by omega), ← ih (k + 1) (by omega)]
        rfl
  rw [q11_0]
  exact key n 0 (by omega)
def tlS (tl : Nat → Bool) (k : Nat) : Nat → Bool := fun j => if j = k then true else tl j
def itF (f0 n : Nat) (T : Nat → Int) (L : Nat) : Nat → Nat → (Nat → Bool) → (Nat → Int) → Nat × Option (Nat → Int)
  | 0, a, _, _ => (a, none)
  | r + 1, a, tl, w => if ixN f0 (lkG T L (skF T L a)) n 0 = -1 then (skF T L a, some w) else if tl (ixN f0 (lkG T L (skF T L a)) n 0).toNat = true then (skF T L a, none) else
    match nmF T L 2 (skF T L (skF T L a + 1)) 0 false with
    | (q, none) => (q, none)
    | (q, some v) => if v < ro 122 (f0 + (ixN f0 (lkG T L (skF T L a)) n 0).toNat) ∨ ro 123 (f0 + (ixN f0 (lkG T L (skF T L a)) n 0).toNat) < v then (q - 1, none) else itF f0 n T L r q (tlS tl (ixN f0 (lkG T L (skF T L a)) n 0).toNat) (su w (ixN f0 (lkG T L (skF T L a)) n 0).toNat v)
theorem it_L {f0 n : Nat} {T : Nat → Int} {L : Nat} (hn : f0 + n ≤ 10) : ∀ (r a : Nat) (tl : Nat → Bool) (w : Nat → Int), a ≤ L → (itF f0 n T L r a tl w).1 ≤ L
  | 0, a, _, _, h => h
  | r + 1, a, tl, w, h => by
    have s0 := sk_L (T := T) h
    unfold itF
    by_cases q0 : ixN f0 (lkG T L (skF T L a)) n 0 = -1
    · rw [if_pos q0]; exact s0
    · rw [if_neg q0]
      have pL := ix_L hn q0
      split
      · exact s0
      · have nl := nm_L (T := T) 2 (skF T L (skF T L a + 1)) 0 false (sk_L pL)
        generalize nmF T L 2 (skF T L (skF T L a + 1)) 0 false = o at nl ⊢
        obtain ⟨q, o⟩ := o
        cases o with
        | none => exact nl.2
        | some v =>
          dsimp only
          split
          · show q - 1 ≤ L
            have : q ≤ L := nl.2
            omega
          · exact it_L hn r q _ _ nl.2
theorem cn_tl {tl : Nat → Bool} {k : Nat} (h : tl k = false) : ∀ n, cnF (tlS tl k) n = cnF tl n + (if k < n then 1 else 0)
  | 0 => rfl
  | n + 1 => by
    have ih := cn_tl h n
    unfold cnF
    unfold tlS at ih ⊢
    by_cases q : n = k
    · subst q
      rw [if_pos (if_pos rfl), if_neg (by rw [h]; exact Bool.false_ne_true), ih, if_neg (by omega), if_pos (by omega)]
    · by_cases q2 : tl n = true
      · rw [if_pos (by rw [if_neg q]; exact q2), if_pos q2, ih]
        by_cases q3 : k < n
        · rw [if_pos q3, if_pos (by omega)]; omega
        · rw [if_neg q3, if_neg (by omega)]
      · rw [if_neg (by rw [if_neg q]; exact q2), if_neg q2, ih]
        by_cases q3 : k < n
        · rw [if_pos q3, if_pos (by omega)]
        · rw [if_neg q3, if_neg (by omega)]
theorem ro_b {k : Nat} (hk : k < 10) : (0 ≤ ro 122 k ∧ ro 122 k ≤ 1) ∧ (1 ≤ ro 123 k ∧ ro 123 k ≤ 99) ∧ (ro 122 k ≤ ro 121 k ∧ ro 121 k ≤ ro 123 k) := by
  have r : ∀ k : Fin 10, (0 ≤ ro 122 k ∧ ro 122 k ≤ 1) ∧ (1 ≤ ro 123 k ∧ ro 123 k ≤ 99) ∧ (ro 122 k ≤ ro 121 k ∧ ro 121 k ≤ ro 123 k) := by decide +kernel
  exact r ⟨k, hk⟩
theorem e_itemsL19 {T : Nat → Int} {L : Nat} (d s : Nat) (hs : s + 4 ≤ 4) : ∀ (r i a X : Nat) (tl : Nat → Bool) (w : Nat → Int) (z5 z6 : MV) (h : MH), i + r = 4 + 1 → a ≤ L → TC T L h → cat z5 = 1 → cat z6 = 1 → X < 2 ^ 10 → (∀ k, k < 4 → X.testBit (0 + k) = tl k) → cnF tl 4 = i → (∀ k, k < 4 → h 19 (s + k) = w k) →
    ∃ h2, Run (d + 6) 10 19 [vR 3, vR 19, .inl (s : Int), .inl 0, .inl ((0 + 4 : Nat) : Int), .inl (X : Int), .inl (i : Int), z5, z6] [] (ca h a) = some (some (.inl (bi ((itF 0 4 T L r a tl w).2.isSome = true))), ca h2 (itF 0 4 T L r a tl w).1) ∧ (∀ c, c ≠ 19 → h2 c = h c) ∧ (∀ j, (j < s ∨ s + 4 ≤ j) → h2 19 j = h 19 j) ∧ ∀ w2, (itF 0 4 T L r a tl w).2 = some w2 → ∀ k, k < 4 → h2 19 (s + k) = w2 k := by
  intro r
  induction r with
  | zero =>
    intro i a X tl w z5 z6 h hi ha t c5 c6 hX hb hc hw
    have := cnF_le tl 4
    omega
  | succ r ih =>
    intro i a X tl w z5 z6 h hi ha t c5 c6 hX hb hc hw
    have s0 := sk_L (T := T) ha
    have l240 := t.1.1
    have hd := q10_19 (d + 5) (s : Int) 0 ((0 + 4 : Nat) : Int) (X : Int) (i : Int) z5 c5 z6 c6 (ca h a)
    have e4 : (((0 + 4 : Nat) : Int) - 0) = 4 := by omega
    rw [e4, wI_ok (by omega) (by omega), if_neg (by omega), e_nextT t (d + 5) ha, cI_some, show (0 : Int) = ((0 : Nat) : Int) from rfl, e_itemOf d _ _ (f0 := 0) (n := 4) (by omega), cI_some, ix_ng t.2 (by omega)] at hd
    unfold itF
    obtain ⟨x, hx⟩ : ∃ x, x = ixN 0 (lkG T L (skF T L a)) 4 0 := ⟨_, rfl⟩
    have xb := ix_b 0 (lkG T L (skF T L a)) 4 0
    rw [← hx] at hd xb ⊢
    by_cases q0 : x = -1
    · rw [if_pos q0, if_neg (fun z => z rfl)] at hd
      rw [if_pos q0]
      refine ⟨h, hd, fun _ _ => rfl, fun _ _ => rfl, fun w2 hw2 k hk => ?_⟩
      rw [← Option.some.inj hw2]
      exact hw k hk
    · have pL : skF T L a < L := ix_L (f0 := 0) (n := 4) (by omega) (by rw [← hx]; exact q0)
      obtain ⟨k, hk⟩ : ∃ k : Nat, x = k := ⟨x.toNat, by omega⟩
      subst hk
      have kN : k < 4 := by omega
      rw [if_neg q0, if_pos (by omega), show (((0 : Nat) : Int) + (k : Int)) = ((0 + k : Nat) : Int) by omega, bit_n (by omega) (by omega), hb k kN] at hd
      rw [if_neg q0, show ((k : Nat) : Int).toNat = k by omega]
      by_cases q1 : tl k = true
      · rw [bi_t q1, if_neg (by omega)] at hd
        rw [if_pos q1]
        exact ⟨h, hd, fun _ _ => rfl, fun _ _ => rfl, fun w2 hw2 => by cases hw2⟩
      · rw [if_neg q1]
        have p1L := sk_L (T := T) (show skF T L a + 1 ≤ L from pL)
        rw [bi_f q1, if_pos rfl, ca_at, wI_ok (x := (skF T L a : Int) + 1) (by omega) (by omega), show up (ca h (skF T L a)) 1 2 ((skF T L a : Int) + 1) = ca h (skF T L a + 1) from ca_ca h _ (skF T L a + 1), e_nextT t (d + 5) (show skF T L a + 1 ≤ L from pL), cI_some, show (2 : Int) = ((2 : Nat) : Int) from rfl, e_number t (d + 5) (by omega) p1L, cI_some] at hd
        have nl := nm_L (T := T) 2 (skF T L (skF T L a + 1)) 0 false p1L
        have nb := nm_b (T := T) (L := L) 2 (skF T L (skF T L a + 1)) 0 false 0 (by omega) (by simp)
        have np := nm_p (T := T) (L := L) 2 (skF T L (skF T L a + 1)) 0 false
        generalize nmF T L 2 (skF T L (skF T L a + 1)) 0 false = o at nl nb np hd ⊢
        obtain ⟨q, o⟩ := o
        have qL : q ≤ L := nl.2
        cases o with
        | none =>
          have e : nvF (q, (none : Option Int)).2 = -1 := rfl
          rw [e, if_neg (fun z => z rfl)] at hd
          exact ⟨h, hd, fun _ _ => rfl, fun _ _ => rfl, fun w2 hw2 => by cases hw2⟩
        | some v =>
          have vb : 0 ≤ v ∧ v < 10 ^ (0 + 2) := nb v rfl
          have q1L : 1 ≤ q := by
            rcases np v rfl with z | z
            · cases z
            · have : skF T L (skF T L a + 1) < q := z
              omega
          have e : nvF (q, (some v : Option Int)).2 = v := rfl
          have rb := ro_b (k := 0 + k) (by omega)
          rw [e, if_pos (by omega), if_pos (by omega), if_pos (by omega), show (((0 + k : Nat) : Int)).toNat = 0 + k by omega] at hd
          have bk : up (ca h q) 1 2 (wI (ca h q 1 2 - 1)) = ca h (q - 1) := by
            rw [ca_at, wI_ok (by omega) (by omega), show (q : Int) - 1 = ((q - 1 : Nat) : Int) by omega]
            exact ca_ca h q (q - 1)
          dsimp only at hd ⊢
          rw [bk] at hd
          by_cases q2 : v < ro 122 (0 + k)
          · rw [if_pos q2] at hd
            rw [if_pos (Or.inl q2)]
            exact ⟨h, hd, fun _ _ => rfl, fun _ _ => rfl, fun w2 hw2 => by cases hw2⟩
          · rw [if_neg q2] at hd
            by_cases q3 : v ≤ ro 123 (0 + k)
            · rw [if_pos q3, wI_ok (x := (s : Int) + ((0 + k : Nat) : Int)) (by omega) (by omega), wI_ok (x := (s : Int) + ((0 + k : Nat) : Int) - 0) (by omega) (by omega), if_pos (by omega), show ((s : Int) + ((0 + k : Nat) : Int) - 0).toNat = s + k by omega, iShl_n _ (by omega), iOr_n (by omega) (Nat.lt_of_lt_of_le (Nat.pow_lt_pow_right (n := 0 + k) (m := 10) (a := 2) (by omega) (by omega)) (by decide)), wI_ok (x := (i : Int) + 1) (by omega) (by omega), ca_up _ _ _ (by omega)] at hd
              rw [if_neg (by omega)]
              obtain ⟨h2, u1, u2, u3, u4⟩ := ih (i + 1) q (X ||| 2 ^ (0 + k)) (tlS tl k) (su w k v) (.inl ((0 + k : Nat) : Int)) (.inl v) (up h 19 (s + k) v) (by omega) qL (t.up (by omega) (by omega)) rfl rfl (Nat.or_lt_two_pow hX (Nat.pow_lt_pow_right (by omega) (by omega))) (by
                intro j hj
                rw [Nat.testBit_or, hb j hj, Nat.testBit_two_pow]
                unfold tlS
                by_cases z : j = k
                · subst z; rw [if_pos rfl]; simp
                · rw [if_neg z, decide_eq_false (by omega), Bool.or_false]) (by
                rw [cn_tl (Bool.eq_false_iff.2 q1), hc, if_pos kN]) (by
                intro j hj
                unfold su
                by_cases z : j = k
                · rw [if_pos z, z, up_s]
                · rw [if_neg z, up_i (by omega), hw j hj])
              refine ⟨h2, hd.trans u1, fun c hc => by rw [u2 c hc, up_ne hc], fun j hj => by rw [u3 j hj, up_i (by omega)], u4⟩
            · rw [if_neg q3] at hd
              rw [if_pos (Or.inr (by omega))]
              exact ⟨h, hd, fun _ _ => rfl, fun _ _ => rfl, fun w2 hw2 => by cases hw2⟩
