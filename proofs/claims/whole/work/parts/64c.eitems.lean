/-! items: the class -/
abbrev IC (R s N : Nat) (h : MH) (o : Nat × Option (Nat → Int)) (r : Option (Option MV × MH)) : Prop := ∃ h2, r = some (some (.inl (bi (o.2.isSome = true))), ca h2 o.1) ∧ (∀ c, c ≠ R → h2 c = h c) ∧ (∀ j, (j < s ∨ s + N ≤ j) → h2 R j = h R j) ∧ ∀ w2, o.2 = some w2 → ∀ k, k < N → h2 R (s + k) = w2 k
theorem e_itemsL19 {T : Nat → Int} {L : Nat} (d s : Nat) (hs : s + 4 ≤ 4) : ∀ (r i a X : Nat) (tl : Nat → Bool) (w : Nat → Int) (z5 z6 : MV) (h : MH), i + r = 4 + 1 → a ≤ L → TC T L h → cat z5 = 1 → cat z6 = 1 → X < 2 ^ 10 → (∀ k, k < 4 → X.testBit (0 + k) = tl k) → cnF tl 4 = i → (∀ k, k < 4 → h 19 (s + k) = w k) →
    ∃ h2, Run (d + 6) 9 19 [vR 3, vR 19, .inl (s : Int), .inl 0, .inl ((0 + 4 : Nat) : Int), .inl (X : Int), .inl (i : Int), z5, z6] [] (ca h a) = some (some (.inl (bi ((imF 0 4 T L r a tl w).2.isSome = true))), ca h2 (imF 0 4 T L r a tl w).1) ∧ (∀ c, c ≠ 19 → h2 c = h c) ∧ (∀ j, (j < s ∨ s + 4 ≤ j) → h2 19 j = h 19 j) ∧ ∀ w2, (imF 0 4 T L r a tl w).2 = some w2 → ∀ k, k < 4 → h2 19 (s + k) = w2 k := by
  intro r
  induction r with
  | zero =>
    intro i a X tl w z5 z6 h hi ha t c5 c6 hX hb hc hw
    have := cnF_le tl 4
    omega
  | succ r ih =>
    intro i a X tl w z5 z6 h hi ha t c5 c6 hX hb hc hw
    have s0 := sk_L (T := T) ha
    have l240 := t.1.1
    have hd := q9_19 (d + 5) (s : Int) 0 ((0 + 4 : Nat) : Int) (X : Int) (i : Int) z5 c5 z6 c6 (ca h a)
    have e4 : (((0 + 4 : Nat) : Int) - 0) = 4 := by omega
    have io : ∀ (h : MH) (x : Int), Run (d + 5) 10 0 [.inl x, .inl 0, .inl ((0 + 4 : Nat) : Int), vU] [] h = some (some (.inl (if ixN 0 x 4 0 = -1 then -1 else 0 + ixN 0 x 4 0)), h) := fun h x => e_itemOf d h x (f0 := 0) (n := 4) (by omega)
    rw [e4, wI_ok (by omega) (by omega), if_neg (by omega), e_nextT t (d + 5) ha, cI_some, io, cI_some, ix_ng t.2 (by omega)] at hd
    show IC 19 s 4 h _ _
    unfold imF
    obtain ⟨x, hx⟩ : ∃ x, x = ixN 0 (lkG T L (skF T L a)) 4 0 := ⟨_, rfl⟩
    have xb := ix_b 0 (lkG T L (skF T L a)) 4 0
    rw [← hx] at hd xb ⊢
    by_cases q0 : x = -1
    · rw [if_pos q0, if_neg (fun z => z rfl)] at hd
      rw [if_pos q0]
      refine ⟨h, hd, fun _ _ => rfl, fun _ _ => rfl, fun w2 hw2 k hk => ?_⟩
      rw [← Option.some.inj hw2]
      exact hw k hk
    · have pL : skF T L a < L := ix_L (f0 := 0) (n := 4) (by omega) (by rw [← hx]; exact q0)
      obtain ⟨k, hk⟩ : ∃ k : Nat, x = k := ⟨x.toNat, by omega⟩
      subst hk
      have kN : k < 4 := by omega
      have pw : 2 ^ (0 + k) < 2147483648 := Nat.lt_of_lt_of_le (Nat.pow_lt_pow_right (by omega) (show 0 + k < 10 by omega)) (by decide)
      rw [if_neg q0, if_pos (by omega), show ((0 : Int) + (k : Int)) = ((0 + k : Nat) : Int) by omega, bit_n (by omega) (by omega), hb k kN] at hd
      rw [if_neg q0, show ((k : Nat) : Int).toNat = k by omega]
      by_cases q1 : tl k = true
      · rw [bi_t q1, if_neg (by omega)] at hd
        rw [if_pos q1]
        exact ⟨h, hd, fun _ _ => rfl, fun _ _ => rfl, fun w2 hw2 => by cases hw2⟩
      · rw [if_neg q1]
        have p1L := sk_L (T := T) (show skF T L a + 1 ≤ L from pL)
        have en : Run (d + 5) 16 0 [vR 1, .inl 2, vU, vU] [] (ca h (skF T L (skF T L a + 1))) = _ := e_number t (d + 5) (m := 2) (by omega) p1L
        rw [bi_f q1, if_pos rfl, ca_at, wI_ok (x := (skF T L a : Int) + 1) (by omega) (by omega), show up (ca h (skF T L a)) 1 2 ((skF T L a : Int) + 1) = ca h (skF T L a + 1) from ca_ca h _ (skF T L a + 1), e_nextT t (d + 5) (show skF T L a + 1 ≤ L from pL), cI_some, en, cI_some] at hd
        have nl := nm_L (T := T) 2 (skF T L (skF T L a + 1)) 0 false p1L
        have nb := nm_b (T := T) (L := L) 2 (skF T L (skF T L a + 1)) 0 false 0 (by omega) (by simp)
        have np := nm_p (T := T) (L := L) 2 (skF T L (skF T L a + 1)) 0 false
        generalize nmF T L 2 (skF T L (skF T L a + 1)) 0 false = o at nl nb np hd ⊢
        obtain ⟨q, o⟩ := o
        have qL : q ≤ L := nl.2
        cases o with
        | none =>
          have e : nvF (q, (none : Option Int)).2 = -1 := rfl
          rw [e, if_neg (fun z => z rfl)] at hd
          exact ⟨h, hd, fun _ _ => rfl, fun _ _ => rfl, fun w2 hw2 => by cases hw2⟩
        | some v =>
          have vb : 0 ≤ v ∧ v < 10 ^ (0 + 2) := nb v rfl
          have q1L : 1 ≤ q := by
            rcases np v rfl with z | z
            · cases z
            · have : skF T L (skF T L a + 1) < q := z
              omega
          have e : nvF (q, (some v : Option Int)).2 = v := rfl
          have rb := ro_b (k := 0 + k) (by omega)
          rw [e, if_pos (by omega), if_pos (by omega), show (((0 + k : Nat) : Int)).toNat = 0 + k by omega] at hd
          have bk : up (ca h q) 1 2 (wI (ca h q 1 2 - 1)) = ca h (q - 1) := by
            rw [ca_at, wI_ok (by omega) (by omega), show (q : Int) - 1 = ((q - 1 : Nat) : Int) by omega]
            exact ca_ca h q (q - 1)
          dsimp only at hd ⊢
          rw [bk] at hd
          by_cases q2 : v < ro 122 (0 + k)
          · rw [if_pos q2] at hd
            rw [if_pos (Or.inl q2)]
            exact ⟨h, hd, fun _ _ => rfl, fun _ _ => rfl, fun w2 hw2 => by cases hw2⟩
          · rw [if_neg q2, if_pos (by omega)] at hd
            by_cases q3 : v ≤ ro 123 (0 + k)
            · rw [if_pos q3, wI_ok (x := (s : Int) + ((0 + k : Nat) : Int)) (by omega) (by omega), wI_ok (x := (s : Int) + ((0 + k : Nat) : Int) - 0) (by omega) (by omega), if_pos (by omega), show ((s : Int) + ((0 + k : Nat) : Int) - 0).toNat = s + k by omega, iShl_n _ (by omega), iOr_n (by omega) pw, wI_ok (x := (i : Int) + 1) (by omega) (by omega), ca_up _ _ _ (by omega)] at hd
              rw [if_neg (by omega)]
              obtain ⟨h2, u1, u2, u3, u4⟩ := ih (i + 1) q (X ||| 2 ^ (0 + k)) (tlS tl k) (su w k v) (.inl ((0 + k : Nat) : Int)) (.inl v) (up h 19 (s + k) v) (by omega) qL (t.up (by omega) (by omega)) rfl rfl (Nat.or_lt_two_pow hX (Nat.pow_lt_pow_right (by omega) (by omega))) (by
                intro j hj
                rw [Nat.testBit_or, hb j hj, Nat.testBit_two_pow]
                unfold tlS
                by_cases z : j = k
                · subst z; rw [if_pos rfl]; simp
                · rw [if_neg z, decide_eq_false (by omega), Bool.or_false]) (by
                rw [cn_tl (Bool.eq_false_iff.2 q1), hc, if_pos kN]) (by
                intro j hj
                unfold su
                by_cases z : j = k
                · rw [if_pos z, z, up_s]
                · rw [if_neg z, up_i (by omega), hw j hj])
              refine ⟨h2, hd.trans u1, fun c hc => by rw [u2 c hc, up_ne hc], fun j hj => by rw [u3 j hj, up_i (by omega)], u4⟩
            · rw [if_neg q3] at hd
              rw [if_pos (Or.inr (by omega))]
              exact ⟨h, hd, fun _ _ => rfl, fun _ _ => rfl, fun w2 hw2 => by cases hw2⟩
theorem e_readItems19 {T : Nat → Int} {L : Nat} (d : Nat) {s a : Nat} (hs : s + 4 ≤ 4) {h : MH} (t : TC T L h) (ha : a ≤ L) :
    ∃ h2, Run (d + 6) 9 0 [vR 3, vR 19, .inl (s : Int), .inl 0, .inl ((0 + 4 : Nat) : Int), vU, vU, vU, vU] [] (ca h a) = some (some (.inl (bi ((imF 0 4 T L (4 + 1) a (fun _ => false) (fun k => ro 121 (0 + k))).2.isSome = true))), ca h2 (imF 0 4 T L (4 + 1) a (fun _ => false) (fun k => ro 121 (0 + k))).1) ∧ (∀ c, c ≠ 19 → h2 c = h c) ∧ (∀ j, (j < s ∨ s + 4 ≤ j) → h2 19 j = h 19 j) ∧ ∀ w2, (imF 0 4 T L (4 + 1) a (fun _ => false) (fun k => ro 121 (0 + k))).2 = some w2 → ∀ k, k < 4 → h2 19 (s + k) = w2 k := by
  have e4 : (((0 + 4 : Nat) : Int) - 0) = 4 := by omega
  have ec : cpy (ca h a) (ro 121) 19 0 s 4 = ca (cpy h (ro 121) 19 0 s 4) a := by
    funext x y
    by_cases q : x = 19
    · subst q; rw [cpy_at, ca_ne _ _ (by omega), ca_ne _ _ (by omega), cpy_at]
    · rw [cpy_ne q]
      unfold ca
      by_cases q2 : x = 1
      · subst q2
        by_cases q3 : y = 2
        · subst q3; rw [up_s, up_s]
        · rw [up_i q3, up_i q3, cpy_ne q]
      · rw [up_a q2, up_a q2, cpy_ne q]
  obtain ⟨h2, u1, u2, u3, u4⟩ := e_itemsL19 (T := T) (L := L) d s hs (4 + 1) 0 a 0 (fun _ => false) (fun k => ro 121 (0 + k)) vU vU (cpy h (ro 121) 19 0 s 4) (by omega) ha (t.mv (by rw [cpy_ne (by omega)]) (cpy_ne (by omega))) rfl rfl (by omega) (fun k _ => Nat.zero_testBit _) (by decide) (by
    intro k hk
    rw [cpy_at]
    show (if s ≤ s + k ∧ s + k < s + 4 then ro 121 (0 + (s + k - s)) else h 19 (s + k)) = _
    rw [if_pos (by omega), show s + k - s = k by omega])
  refine ⟨h2, ?_, fun c hc => by rw [u2 c hc, cpy_ne hc], fun j hj => ?_, u4⟩
  · rw [q9_0, e4, wI_ok (by omega) (by omega), if_pos (by omega), show ((s : Nat) : Int).toNat = s by omega, show (0 : Int).toNat = 0 by omega, show (4 : Int).toNat = 4 by omega, ec]
    exact u1
  · rw [u3 j hj, cpy_at]
    show (if s ≤ j ∧ j < s + 4 then ro 121 (0 + (j - s)) else h 19 j) = _
    rw [if_neg (by omega)]
theorem e_itemsL20 {T : Nat → Int} {L : Nat} (d s : Nat) (hs : s + 3 ≤ 24) : ∀ (r i a X : Nat) (tl : Nat → Bool) (w : Nat → Int) (z5 z6 : MV) (h : MH), i + r = 3 + 1 → a ≤ L → TC T L h → cat z5 = 1 → cat z6 = 1 → X < 2 ^ 10 → (∀ k, k < 3 → X.testBit (4 + k) = tl k) → cnF tl 3 = i → (∀ k, k < 3 → h 20 (s + k) = w k) →
    ∃ h2, Run (d + 6) 9 19 [vR 3, vR 20, .inl (s : Int), .inl 4, .inl ((4 + 3 : Nat) : Int), .inl (X : Int), .inl (i : Int), z5, z6] [] (ca h a) = some (some (.inl (bi ((imF 4 3 T L r a tl w).2.isSome = true))), ca h2 (imF 4 3 T L r a tl w).1) ∧ (∀ c, c ≠ 20 → h2 c = h c) ∧ (∀ j, (j < s ∨ s + 3 ≤ j) → h2 20 j = h 20 j) ∧ ∀ w2, (imF 4 3 T L r a tl w).2 = some w2 → ∀ k, k < 3 → h2 20 (s + k) = w2 k := by
  intro r
  induction r with
  | zero =>
    intro i a X tl w z5 z6 h hi ha t c5 c6 hX hb hc hw
    have := cnF_le tl 3
    omega
  | succ r ih =>
    intro i a X tl w z5 z6 h hi ha t c5 c6 hX hb hc hw
    have s0 := sk_L (T := T) ha
    have l240 := t.1.1
    have hd := q9_19_1 (d + 5) (s : Int) 4 ((4 + 3 : Nat) : Int) (X : Int) (i : Int) z5 c5 z6 c6 (ca h a)
    have e3 : (((4 + 3 : Nat) : Int) - 4) = 3 := by omega
    have io : ∀ (h : MH) (x : Int), Run (d + 5) 10 0 [.inl x, .inl 4, .inl ((4 + 3 : Nat) : Int), vU] [] h = some (some (.inl (if ixN 4 x 3 0 = -1 then -1 else 4 + ixN 4 x 3 0)), h) := fun h x => e_itemOf d h x (f0 := 4) (n := 3) (by omega)
    rw [e3, wI_ok (by omega) (by omega), if_neg (by omega), e_nextT t (d + 5) ha, cI_some, io, cI_some, ix_ng t.2 (by omega)] at hd
    show IC 20 s 3 h _ _
    unfold imF
    obtain ⟨x, hx⟩ : ∃ x, x = ixN 4 (lkG T L (skF T L a)) 3 0 := ⟨_, rfl⟩
    have xb := ix_b 4 (lkG T L (skF T L a)) 3 0
    rw [← hx] at hd xb ⊢
    by_cases q0 : x = -1
    · rw [if_pos q0, if_neg (fun z => z rfl)] at hd
      rw [if_pos q0]
      refine ⟨h, hd, fun _ _ => rfl, fun _ _ => rfl, fun w2 hw2 k hk => ?_⟩
      rw [← Option.some.inj hw2]
      exact hw k hk
    · have pL : skF T L a < L := ix_L (f0 := 4) (n := 3) (by omega) (by rw [← hx]; exact q0)
      obtain ⟨k, hk⟩ : ∃ k : Nat, x = k := ⟨x.toNat, by omega⟩
      subst hk
      have kN : k < 3 := by omega
      have pw : 2 ^ (4 + k) < 2147483648 := Nat.lt_of_lt_of_le (Nat.pow_lt_pow_right (by omega) (show 4 + k < 10 by omega)) (by decide)
      rw [if_neg q0, if_pos (by omega), show ((4 : Int) + (k : Int)) = ((4 + k : Nat) : Int) by omega, bit_n (by omega) (by omega), hb k kN] at hd
      rw [if_neg q0, show ((k : Nat) : Int).toNat = k by omega]
      by_cases q1 : tl k = true
      · rw [bi_t q1, if_neg (by omega)] at hd
        rw [if_pos q1]
        exact ⟨h, hd, fun _ _ => rfl, fun _ _ => rfl, fun w2 hw2 => by cases hw2⟩
      · rw [if_neg q1]
        have p1L := sk_L (T := T) (show skF T L a + 1 ≤ L from pL)
        have en : Run (d + 5) 16 0 [vR 1, .inl 2, vU, vU] [] (ca h (skF T L (skF T L a + 1))) = _ := e_number t (d + 5) (m := 2) (by omega) p1L
        rw [bi_f q1, if_pos rfl, ca_at, wI_ok (x := (skF T L a : Int) + 1) (by omega) (by omega), show up (ca h (skF T L a)) 1 2 ((skF T L a : Int) + 1) = ca h (skF T L a + 1) from ca_ca h _ (skF T L a + 1), e_nextT t (d + 5) (show skF T L a + 1 ≤ L from pL), cI_some, en, cI_some] at hd
        have nl := nm_L (T := T) 2 (skF T L (skF T L a + 1)) 0 false p1L
        have nb := nm_b (T := T) (L := L) 2 (skF T L (skF T L a + 1)) 0 false 0 (by omega) (by simp)
        have np := nm_p (T := T) (L := L) 2 (skF T L (skF T L a + 1)) 0 false
        generalize nmF T L 2 (skF T L (skF T L a + 1)) 0 false = o at nl nb np hd ⊢
        obtain ⟨q, o⟩ := o
        have qL : q ≤ L := nl.2
        cases o with
        | none =>
          have e : nvF (q, (none : Option Int)).2 = -1 := rfl
          rw [e, if_neg (fun z => z rfl)] at hd
          exact ⟨h, hd, fun _ _ => rfl, fun _ _ => rfl, fun w2 hw2 => by cases hw2⟩
        | some v =>
          have vb : 0 ≤ v ∧ v < 10 ^ (0 + 2) := nb v rfl
          have q1L : 1 ≤ q := by
            rcases np v rfl with z | z
            · cases z
            · have : skF T L (skF T L a + 1) < q := z
              omega
          have e : nvF (q, (some v : Option Int)).2 = v := rfl
          have rb := ro_b (k := 4 + k) (by omega)
          rw [e, if_pos (by omega), if_pos (by omega), show (((4 + k : Nat) : Int)).toNat = 4 + k by omega] at hd
          have bk : up (ca h q) 1 2 (wI (ca h q 1 2 - 1)) = ca h (q - 1) := by
            rw [ca_at, wI_ok (by omega) (by omega), show (q : Int) - 1 = ((q - 1 : Nat) : Int) by omega]
            exact ca_ca h q (q - 1)
          dsimp only at hd ⊢
          rw [bk] at hd
          by_cases q2 : v < ro 122 (4 + k)
          · rw [if_pos q2] at hd
            rw [if_pos (Or.inl q2)]
            exact ⟨h, hd, fun _ _ => rfl, fun _ _ => rfl, fun w2 hw2 => by cases hw2⟩
          · rw [if_neg q2, if_pos (by omega)] at hd
            by_cases q3 : v ≤ ro 123 (4 + k)
            · rw [if_pos q3, wI_ok (x := (s : Int) + ((4 + k : Nat) : Int)) (by omega) (by omega), wI_ok (x := (s : Int) + ((4 + k : Nat) : Int) - 4) (by omega) (by omega), if_pos (by omega), show ((s : Int) + ((4 + k : Nat) : Int) - 4).toNat = s + k by omega, iShl_n _ (by omega), iOr_n (by omega) pw, wI_ok (x := (i : Int) + 1) (by omega) (by omega), ca_up _ _ _ (by omega)] at hd
              rw [if_neg (by omega)]
              obtain ⟨h2, u1, u2, u3, u4⟩ := ih (i + 1) q (X ||| 2 ^ (4 + k)) (tlS tl k) (su w k v) (.inl ((4 + k : Nat) : Int)) (.inl v) (up h 20 (s + k) v) (by omega) qL (t.up (by omega) (by omega)) rfl rfl (Nat.or_lt_two_pow hX (Nat.pow_lt_pow_right (by omega) (by omega))) (by
                intro j hj
                rw [Nat.testBit_or, hb j hj, Nat.testBit_two_pow]
                unfold tlS
                by_cases z : j = k
                · subst z; rw [if_pos rfl]; simp
                · rw [if_neg z, decide_eq_false (by omega), Bool.or_false]) (by
                rw [cn_tl (Bool.eq_false_iff.2 q1), hc, if_pos kN]) (by
                intro j hj
                unfold su
                by_cases z : j = k
                · rw [if_pos z, z, up_s]
                · rw [if_neg z, up_i (by omega), hw j hj])
              refine ⟨h2, hd.trans u1, fun c hc => by rw [u2 c hc, up_ne hc], fun j hj => by rw [u3 j hj, up_i (by omega)], u4⟩
            · rw [if_neg q3] at hd
              rw [if_pos (Or.inr (by omega))]
              exact ⟨h, hd, fun _ _ => rfl, fun _ _ => rfl, fun w2 hw2 => by cases hw2⟩
theorem e_readItems20 {T : Nat → Int} {L : Nat} (d : Nat) {s a : Nat} (hs : s + 3 ≤ 24) {h : MH} (t : TC T L h) (ha : a ≤ L) :
    ∃ h2, Run (d + 6) 9 0 [vR 3, vR 20, .inl (s : Int), .inl 4, .inl ((4 + 3 : Nat) : Int), vU, vU, vU, vU] [] (ca h a) = some (some (.inl (bi ((imF 4 3 T L (3 + 1) a (fun _ => false) (fun k => ro 121 (4 + k))).2.isSome = true))), ca h2 (imF 4 3 T L (3 + 1) a (fun _ => false) (fun k => ro 121 (4 + k))).1) ∧ (∀ c, c ≠ 20 → h2 c = h c) ∧ (∀ j, (j < s ∨ s + 3 ≤ j) → h2 20 j = h 20 j) ∧ ∀ w2, (imF 4 3 T L (3 + 1) a (fun _ => false) (fun k => ro 121 (4 + k))).2 = some w2 → ∀ k, k < 3 → h2 20 (s + k) = w2 k := by
  have e3 : (((4 + 3 : Nat) : Int) - 4) = 3 := by omega
  have ec : cpy (ca h a) (ro 121) 20 4 s 3 = ca (cpy h (ro 121) 20 4 s 3) a := by
    funext x y
    by_cases q : x = 20
    · subst q; rw [cpy_at, ca_ne _ _ (by omega), ca_ne _ _ (by omega), cpy_at]
    · rw [cpy_ne q]
      unfold ca
      by_cases q2 : x = 1
      · subst q2
        by_cases q3 : y = 2
        · subst q3; rw [up_s, up_s]
        · rw [up_i q3, up_i q3, cpy_ne q]
      · rw [up_a q2, up_a q2, cpy_ne q]
  obtain ⟨h2, u1, u2, u3, u4⟩ := e_itemsL20 (T := T) (L := L) d s hs (3 + 1) 0 a 0 (fun _ => false) (fun k => ro 121 (4 + k)) vU vU (cpy h (ro 121) 20 4 s 3) (by omega) ha (t.mv (by rw [cpy_ne (by omega)]) (cpy_ne (by omega))) rfl rfl (by omega) (fun k _ => Nat.zero_testBit _) (by decide) (by
    intro k hk
    rw [cpy_at]
    show (if s ≤ s + k ∧ s + k < s + 3 then ro 121 (4 + (s + k - s)) else h 20 (s + k)) = _
    rw [if_pos (by omega), show s + k - s = k by omega])
  refine ⟨h2, ?_, fun c hc => by rw [u2 c hc, cpy_ne hc], fun j hj => ?_, u4⟩
  · rw [q9_0_1, e3, wI_ok (by omega) (by omega), if_pos (by omega), show ((s : Nat) : Int).toNat = s by omega, show (4 : Int).toNat = 4 by omega, show (3 : Int).toNat = 3 by omega, ec]
    exact u1
  · rw [u3 j hj, cpy_at]
    show (if s ≤ j ∧ j < s + 3 then ro 121 (4 + (j - s)) else h 20 j) = _
    rw [if_neg (by omega)]
theorem e_itemsL21 {T : Nat → Int} {L : Nat} (d s : Nat) (hs : s + 3 ≤ 15) : ∀ (r i a X : Nat) (tl : Nat → Bool) (w : Nat → Int) (z5 z6 : MV) (h : MH), i + r = 3 + 1 → a ≤ L → TC T L h → cat z5 = 1 → cat z6 = 1 → X < 2 ^ 10 → (∀ k, k < 3 → X.testBit (7 + k) = tl k) → cnF tl 3 = i → (∀ k, k < 3 → h 21 (s + k) = w k) →
    ∃ h2, Run (d + 6) 9 19 [vR 3, vR 21, .inl (s : Int), .inl 7, .inl ((7 + 3 : Nat) : Int), .inl (X : Int), .inl (i : Int), z5, z6] [] (ca h a) = some (some (.inl (bi ((imF 7 3 T L r a tl w).2.isSome = true))), ca h2 (imF 7 3 T L r a tl w).1) ∧ (∀ c, c ≠ 21 → h2 c = h c) ∧ (∀ j, (j < s ∨ s + 3 ≤ j) → h2 21 j = h 21 j) ∧ ∀ w2, (imF 7 3 T L r a tl w).2 = some w2 → ∀ k, k < 3 → h2 21 (s + k) = w2 k := by
  intro r
  induction r with
  | zero =>
    intro i a X tl w z5 z6 h hi ha t c5 c6 hX hb hc hw
    have := cnF_le tl 3
    omega
  | succ r ih =>
    intro i a X tl w z5 z6 h hi ha t c5 c6 hX hb hc hw
    have s0 := sk_L (T := T) ha
    have l240 := t.1.1
    have hd := q9_19_2 (d + 5) (s : Int) 7 ((7 + 3 : Nat) : Int) (X : Int) (i : Int) z5 c5 z6 c6 (ca h a)
    have e3 : (((7 + 3 : Nat) : Int) - 7) = 3 := by omega
    have io : ∀ (h : MH) (x : Int), Run (d + 5) 10 0 [.inl x, .inl 7, .inl ((7 + 3 : Nat) : Int), vU] [] h = some (some (.inl (if ixN 7 x 3 0 = -1 then -1 else 7 + ixN 7 x 3 0)), h) := fun h x => e_itemOf d h x (f0 := 7) (n := 3) (by omega)
    rw [e3, wI_ok (by omega) (by omega), if_neg (by omega), e_nextT t (d + 5) ha, cI_some, io, cI_some, ix_ng t.2 (by omega)] at hd
    show IC 21 s 3 h _ _
    unfold imF
    obtain ⟨x, hx⟩ : ∃ x, x = ixN 7 (lkG T L (skF T L a)) 3 0 := ⟨_, rfl⟩
    have xb := ix_b 7 (lkG T L (skF T L a)) 3 0
    rw [← hx] at hd xb ⊢
    by_cases q0 : x = -1
    · rw [if_pos q0, if_neg (fun z => z rfl)] at hd
      rw [if_pos q0]
      refine ⟨h, hd, fun _ _ => rfl, fun _ _ => rfl, fun w2 hw2 k hk => ?_⟩
      rw [← Option.some.inj hw2]
      exact hw k hk
    · have pL : skF T L a < L := ix_L (f0 := 7) (n := 3) (by omega) (by rw [← hx]; exact q0)
      obtain ⟨k, hk⟩ : ∃ k : Nat, x = k := ⟨x.toNat, by omega⟩
      subst hk
      have kN : k < 3 := by omega
      have pw : 2 ^ (7 + k) < 2147483648 := Nat.lt_of_lt_of_le (Nat.pow_lt_pow_right (by omega) (show 7 + k < 10 by omega)) (by decide)
      rw [if_neg q0, if_pos (by omega), show ((7 : Int) + (k : Int)) = ((7 + k : Nat) : Int) by omega, bit_n (by omega) (by omega), hb k kN] at hd
      rw [if_neg q0, show ((k : Nat) : Int).toNat = k by omega]
      by_cases q1 : tl k = true
      · rw [bi_t q1, if_neg (by omega)] at hd
        rw [if_pos q1]
        exact ⟨h, hd, fun _ _ => rfl, fun _ _ => rfl, fun w2 hw2 => by cases hw2⟩
      · rw [if_neg q1]
        have p1L := sk_L (T := T) (show skF T L a + 1 ≤ L from pL)
        have en : Run (d + 5) 16 0 [vR 1, .inl 2, vU, vU] [] (ca h (skF T L (skF T L a + 1))) = _ := e_number t (d + 5) (m := 2) (by omega) p1L
        rw [bi_f q1, if_pos rfl, ca_at, wI_ok (x := (skF T L a : Int) + 1) (by omega) (by omega), show up (ca h (skF T L a)) 1 2 ((skF T L a : Int) + 1) = ca h (skF T L a + 1) from ca_ca h _ (skF T L a + 1), e_nextT t (d + 5) (show skF T L a + 1 ≤ L from pL), cI_some, en, cI_some] at hd
        have nl := nm_L (T := T) 2 (skF T L (skF T L a + 1)) 0 false p1L
        have nb := nm_b (T := T) (L := L) 2 (skF T L (skF T L a + 1)) 0 false 0 (by omega) (by simp)
        have np := nm_p (T := T) (L := L) 2 (skF T L (skF T L a + 1)) 0 false
        generalize nmF T L 2 (skF T L (skF T L a + 1)) 0 false = o at nl nb np hd ⊢
        obtain ⟨q, o⟩ := o
        have qL : q ≤ L := nl.2
        cases o with
        | none =>
          have e : nvF (q, (none : Option Int)).2 = -1 := rfl
          rw [e, if_neg (fun z => z rfl)] at hd
          exact ⟨h, hd, fun _ _ => rfl, fun _ _ => rfl, fun w2 hw2 => by cases hw2⟩
        | some v =>
          have vb : 0 ≤ v ∧ v < 10 ^ (0 + 2) := nb v rfl
          have q1L : 1 ≤ q := by
            rcases np v rfl with z | z
            · cases z
            · have : skF T L (skF T L a + 1) < q := z
              omega
          have e : nvF (q, (some v : Option Int)).2 = v := rfl
          have rb := ro_b (k := 7 + k) (by omega)
          rw [e, if_pos (by omega), if_pos (by omega), show (((7 + k : Nat) : Int)).toNat = 7 + k by omega] at hd
          have bk : up (ca h q) 1 2 (wI (ca h q 1 2 - 1)) = ca h (q - 1) := by
            rw [ca_at, wI_ok (by omega) (by omega), show (q : Int) - 1 = ((q - 1 : Nat) : Int) by omega]
            exact ca_ca h q (q - 1)
          dsimp only at hd ⊢
          rw [bk] at hd
          by_cases q2 : v < ro 122 (7 + k)
          · rw [if_pos q2] at hd
            rw [if_pos (Or.inl q2)]
            exact ⟨h, hd, fun _ _ => rfl, fun _ _ => rfl, fun w2 hw2 => by cases hw2⟩
          · rw [if_neg q2, if_pos (by omega)] at hd
            by_cases q3 : v ≤ ro 123 (7 + k)
            · rw [if_pos q3, wI_ok (x := (s : Int) + ((7 + k : Nat) : Int)) (by omega) (by omega), wI_ok (x := (s : Int) + ((7 + k : Nat) : Int) - 7) (by omega) (by omega), if_pos (by omega), show ((s : Int) + ((7 + k : Nat) : Int) - 7).toNat = s + k by omega, iShl_n _ (by omega), iOr_n (by omega) pw, wI_ok (x := (i : Int) + 1) (by omega) (by omega), ca_up _ _ _ (by omega)] at hd
              rw [if_neg (by omega)]
              obtain ⟨h2, u1, u2, u3, u4⟩ := ih (i + 1) q (X ||| 2 ^ (7 + k)) (tlS tl k) (su w k v) (.inl ((7 + k : Nat) : Int)) (.inl v) (up h 21 (s + k) v) (by omega) qL (t.up (by omega) (by omega)) rfl rfl (Nat.or_lt_two_pow hX (Nat.pow_lt_pow_right (by omega) (by omega))) (by
                intro j hj
                rw [Nat.testBit_or, hb j hj, Nat.testBit_two_pow]
                unfold tlS
                by_cases z : j = k
                · subst z; rw [if_pos rfl]; simp
                · rw [if_neg z, decide_eq_false (by omega), Bool.or_false]) (by
                rw [cn_tl (Bool.eq_false_iff.2 q1), hc, if_pos kN]) (by
                intro j hj
                unfold su
                by_cases z : j = k
                · rw [if_pos z, z, up_s]
                · rw [if_neg z, up_i (by omega), hw j hj])
              refine ⟨h2, hd.trans u1, fun c hc => by rw [u2 c hc, up_ne hc], fun j hj => by rw [u3 j hj, up_i (by omega)], u4⟩
            · rw [if_neg q3] at hd
              rw [if_pos (Or.inr (by omega))]
              exact ⟨h, hd, fun _ _ => rfl, fun _ _ => rfl, fun w2 hw2 => by cases hw2⟩
theorem e_readItems21 {T : Nat → Int} {L : Nat} (d : Nat) {s a : Nat} (hs : s + 3 ≤ 15) {h : MH} (t : TC T L h) (ha : a ≤ L) :
    ∃ h2, Run (d + 6) 9 0 [vR 3, vR 21, .inl (s : Int), .inl 7, .inl ((7 + 3 : Nat) : Int), vU, vU, vU, vU] [] (ca h a) = some (some (.inl (bi ((imF 7 3 T L (3 + 1) a (fun _ => false) (fun k => ro 121 (7 + k))).2.isSome = true))), ca h2 (imF 7 3 T L (3 + 1) a (fun _ => false) (fun k => ro 121 (7 + k))).1) ∧ (∀ c, c ≠ 21 → h2 c = h c) ∧ (∀ j, (j < s ∨ s + 3 ≤ j) → h2 21 j = h 21 j) ∧ ∀ w2, (imF 7 3 T L (3 + 1) a (fun _ => false) (fun k => ro 121 (7 + k))).2 = some w2 → ∀ k, k < 3 → h2 21 (s + k) = w2 k := by
  have e3 : (((7 + 3 : Nat) : Int) - 7) = 3 := by omega
  have ec : cpy (ca h a) (ro 121) 21 7 s 3 = ca (cpy h (ro 121) 21 7 s 3) a := by
    funext x y
    by_cases q : x = 21
    · subst q; rw [cpy_at, ca_ne _ _ (by omega), ca_ne _ _ (by omega), cpy_at]
    · rw [cpy_ne q]
      unfold ca
      by_cases q2 : x = 1
      · subst q2
        by_cases q3 : y = 2
        · subst q3; rw [up_s, up_s]
        · rw [up_i q3, up_i q3, cpy_ne q]
      · rw [up_a q2, up_a q2, cpy_ne q]
  obtain ⟨h2, u1, u2, u3, u4⟩ := e_itemsL21 (T := T) (L := L) d s hs (3 + 1) 0 a 0 (fun _ => false) (fun k => ro 121 (7 + k)) vU vU (cpy h (ro 121) 21 7 s 3) (by omega) ha (t.mv (by rw [cpy_ne (by omega)]) (cpy_ne (by omega))) rfl rfl (by omega) (fun k _ => Nat.zero_testBit _) (by decide) (by
    intro k hk
    rw [cpy_at]
    show (if s ≤ s + k ∧ s + k < s + 3 then ro 121 (7 + (s + k - s)) else h 21 (s + k)) = _
    rw [if_pos (by omega), show s + k - s = k by omega])
  refine ⟨h2, ?_, fun c hc => by rw [u2 c hc, cpy_ne hc], fun j hj => ?_, u4⟩
  · rw [q9_0_2, e3, wI_ok (by omega) (by omega), if_pos (by omega), show ((s : Nat) : Int).toNat = s by omega, show (7 : Int).toNat = 7 by omega, show (3 : Int).toNat = 3 by omega, ec]
    exact u1
  · rw [u3 j hj, cpy_at]
    show (if s ≤ j ∧ j < s + 3 then ro 121 (7 + (j - s)) else h 21 j) = _
    rw [if_neg (by omega)]
