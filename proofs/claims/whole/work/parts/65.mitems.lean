/-! items, as the reference reads them -/
def flO {α : Type} (o : Nat × Option α) : Int := if o.2.isSome = true then -1 else (o.1 : Int)
theorem fi_ix {v f0 n : Nat} {x : Int} (e : ∀ k, k < n → chF v k = chF 131 (f0 + k)) : ∀ (r k : Nat), k + r = n → fiN v n x r k = ixN f0 x r k
  | 0, _, _ => rfl
  | r + 1, k, h => by
    unfold fiN ixN
    rw [e k (by omega), fi_ix e r (k + 1) (by omega)]
theorem sp_ix103 (x : Int) : fiN 134 4 x 4 0 = ixN 0 x 4 0 := by
  have e : ∀ k : Fin 4, chF 134 k = chF 131 (0 + k) := by decide +kernel
  exact fi_ix (fun k hk => e ⟨k, hk⟩) 4 0 rfl
theorem m_least103 (d : Nat) (h : MH) {k : Nat} (hk : k < 4) : Run d 193 0 [.inl 115, .inl (k : Int)] [] h = some (some (.inl (ro 122 (0 + k))), h) := by
  have c : k = 0 ∨ k = 1 ∨ k = 2 ∨ k = 3 := by omega
  rcases c with rfl | rfl | rfl | rfl
  all_goals first | (exfalso; omega) | (rw [q193_0]; rfl)
theorem m_most103 (d : Nat) (h : MH) {k : Nat} (hk : k < 4) : Run d 194 0 [.inl 115, .inl (k : Int)] [] h = some (some (.inl (ro 123 (0 + k))), h) := by
  have c : k = 0 ∨ k = 1 ∨ k = 2 ∨ k = 3 := by omega
  rcases c with rfl | rfl | rfl | rfl
  all_goals first | (exfalso; omega) | (rw [q194_0]; rfl)
theorem m_usual103 (d : Nat) (h : MH) {k : Nat} (hk : k < 4) : Run d 186 0 [.inl 115, .inl (k : Int)] [] h = some (some (.inl (ro 121 (0 + k))), h) := by
  have c : k = 0 ∨ k = 1 ∨ k = 2 ∨ k = 3 := by omega
  rcases c with rfl | rfl | rfl | rfl
  all_goals first | (exfalso; omega) | (rw [q186_0]; rfl)
theorem m_itemsL103 {T : Nat → Int} {L : Nat} (L9 : L ≤ 240) (d s : Nat) (hs : s + 4 ≤ 4) : ∀ (r i a X : Nat) (tl : Nat → Bool) (w : Nat → Int) (G : MH), i + r = 4 + 1 → a ≤ L → RT T L G → X < 2 ^ 4 → (∀ k, k < 4 → X.testBit k = tl k) → cnF tl 4 = i → (∀ k, k < 4 → G 103 (s + k) = w k) →
    ∃ G2, Run (d + 6) 190 45 [vR 97, .inl 115, vR 103, .inl (s : Int), vR 127, .inl (X : Int), .inl (ixN 0 (lkG T L (skF T L a)) 4 0)] [] (mg G (skF T L a) (-1)) = some (none, mg G2 (imF 0 4 T L r a tl w).1 (flO (imF 0 4 T L r a tl w))) ∧ (∀ c, c ≠ 103 → G2 c = G c) ∧ (∀ j, (j < s ∨ s + 4 ≤ j) → G2 103 j = G 103 j) ∧ ∀ w2, (imF 0 4 T L r a tl w).2 = some w2 → ∀ k, k < 4 → G2 103 (s + k) = w2 k := by
  intro r
  induction r with
  | zero =>
    intro i a X tl w G hi ha t hX hb hc hw
    have := cnF_le tl 4
    omega
  | succ r ih =>
    intro i a X tl w G hi ha t hX hb hc hw
    have s0 := sk_L (T := T) ha
    unfold imF
    obtain ⟨x, hx⟩ : ∃ x, x = ixN 0 (lkG T L (skF T L a)) 4 0 := ⟨_, rfl⟩
    have xb := ix_b 0 (lkG T L (skF T L a)) 4 0
    rw [← hx] at xb ⊢
    have hd := q190_45_2 (d + 5) 115 (s : Int) (X : Int) x (mg G (skF T L a) (-1))
    by_cases q0 : x = -1
    · rw [if_pos q0] at hd
      rw [if_pos q0]
      refine ⟨G, hd, fun _ _ => rfl, fun _ _ => rfl, fun w2 hw2 k hk => ?_⟩
      rw [← Option.some.inj hw2]
      exact hw k hk
    · have pL : skF T L a < L := ix_L (f0 := 0) (n := 4) (by omega) (by rw [← hx]; exact q0)
      obtain ⟨k, hk⟩ : ∃ k : Nat, x = k := ⟨x.toNat, by omega⟩
      subst hk
      have kN : k < 4 := by omega
      have pw : 2 ^ (k) < 2147483648 := Nat.lt_of_lt_of_le (Nat.pow_lt_pow_right (by omega) (show k < 10 by omega)) (by decide)
      rw [if_neg q0, mg_fl, if_neg (fun z => z rfl), m_has, cI_some, bit_n (by omega) (by omega), hb k kN] at hd
      rw [if_neg q0, show ((k : Nat) : Int).toNat = k by omega]
      by_cases q1 : tl k = true
      · rw [bi_t q1, if_neg (by omega), m_fails, cI_some, if_pos rfl] at hd
        rw [if_pos q1]
        exact ⟨G, hd, fun _ _ => rfl, fun _ _ => rfl, fun w2 hw2 => by cases hw2⟩
      · rw [if_neg q1]
        have p1L := sk_L (T := T) (show skF T L a + 1 ≤ L from pL)
        have rb := ro_b (k := 0 + k) (by omega)
        rw [bi_f q1, if_pos rfl, mg_at, wI_ok (x := (skF T L a : Int) + 1) (by omega) (by omega), show up (mg G (skF T L a) (-1)) 97 10 ((skF T L a : Int) + 1) = mg G (skF T L a + 1) (-1) from mg_a G _ (skF T L a + 1) (-1), m_least103 _ _ kN, cI_some, m_most103 _ _ kN, cI_some, m_number t L9 (d + 4) (show skF T L a + 1 ≤ L from pL) _ _ (by unfold inI; omega) (by unfold inI; omega), cI_some, wI_ok (x := (s : Int) + k) (by omega) (by omega), if_pos (by omega), show ((s : Int) + k).toNat = s + k by omega, mg_up _ _ _ _ (by omega), mg_fl, iShl_n _ (by omega), iOr_n (by omega) pw] at hd
        have nl := nm_L (T := T) 2 (skF T L (skF T L a + 1)) 0 false p1L
        obtain ⟨nr, hnr⟩ : ∃ nr, nr = nrF T L (skF T L (skF T L a + 1)) (ro 122 (0 + k)) (ro 123 (0 + k)) := ⟨_, rfl⟩
        rw [← hnr] at hd
        obtain ⟨na, nf, nv⟩ := nr
        unfold nrF at hnr
        generalize nmF T L 2 (skF T L (skF T L a + 1)) 0 false = o at nl hnr ⊢
        obtain ⟨q, o⟩ := o
        have qL : q ≤ L := nl.2
        have stop : ∀ (GX : MH) (aX XX : Nat) (f : Int), ¬ f = -1 → Run (d + 6) 190 45 [vR 97, .inl 115, vR 103, .inl (s : Int), vR 127, .inl (XX : Int), .inl (k : Int)] [] (mg GX aX f) = some (none, mg GX aX f) := by
          intro GX aX XX f hf
          rw [q190_45_2, if_neg (by omega), mg_fl, if_pos hf]
        cases o with
        | none =>
          cases hnr
          rw [if_pos (by dsimp only; omega)] at hd
          refine ⟨_, hd.trans (stop _ _ _ _ (by dsimp only; omega)), fun c hc => up_ne hc, fun j hj => up_i (by omega), fun w2 hw2 => by cases hw2⟩
        | some v =>
          dsimp only at hnr ⊢
          by_cases q2 : ro 122 (0 + k) ≤ v ∧ v ≤ ro 123 (0 + k)
          · rw [if_pos q2] at hnr
            cases hnr
            rw [if_neg (by omega)]
            have t2 : RT T L (up G 103 (s + k) nv) := t.up (by omega) (by omega) (by omega)
            rw [if_neg (fun z => z rfl)] at hd
            dsimp only at hd
            rw [m_look t2 _ _ qL, cI_some, m_spot127, cI_some, sp_ix103] at hd
            obtain ⟨G2, u1, u2, u3, u4⟩ := ih (i + 1) na (X ||| 2 ^ k) (tlS tl k) (su w k nv) (up G 103 (s + k) nv) (by omega) qL t2 (Nat.or_lt_two_pow hX (Nat.pow_lt_pow_right (by omega) (by omega))) (by
              intro j hj
              rw [Nat.testBit_or, hb j hj, Nat.testBit_two_pow]
              unfold tlS
              by_cases z : j = k
              · subst z; rw [if_pos rfl]; simp
              · rw [if_neg z, decide_eq_false (by omega), Bool.or_false]) (by
              rw [cn_tl (Bool.eq_false_iff.2 q1), hc, if_pos kN]) (by
              intro j hj
              unfold su
              by_cases z : j = k
              · rw [if_pos z, z, up_s]
              · rw [if_neg z, up_i (by omega), hw j hj])
            refine ⟨G2, hd.trans u1, fun c hc => by rw [u2 c hc, up_ne hc], fun j hj => by rw [u3 j hj, up_i (by omega)], u4⟩
          · rw [if_neg q2] at hnr
            cases hnr
            rw [if_pos (by omega)]
            rw [if_pos (by dsimp only; omega)] at hd
            refine ⟨_, hd.trans (stop _ _ _ _ (by dsimp only; omega)), fun c hc => up_ne hc, fun j hj => up_i (by omega), fun w2 hw2 => by cases hw2⟩
theorem m_readItems103 {T : Nat → Int} {L : Nat} (L9 : L ≤ 240) (d : Nat) {s a : Nat} (hs : s + 4 ≤ 4) {G : MH} (t : RT T L G) (ha : a ≤ L) :
    ∃ G2, Run (d + 6) 190 0 [vR 97, .inl 115, vR 103, .inl (s : Int), vR 127, vU, vU] [] (mg G a (-1)) = some (none, mg G2 (imF 0 4 T L (4 + 1) a (fun _ => false) (fun k => ro 121 (0 + k))).1 (flO (imF 0 4 T L (4 + 1) a (fun _ => false) (fun k => ro 121 (0 + k))))) ∧ (∀ c, c ≠ 103 → G2 c = G c) ∧ (∀ j, (j < s ∨ s + 4 ≤ j) → G2 103 j = G 103 j) ∧ ∀ w2, (imF 0 4 T L (4 + 1) a (fun _ => false) (fun k => ro 121 (0 + k))).2 = some w2 → ∀ k, k < 4 → G2 103 (s + k) = w2 k := by
  have lp : ∀ (r k : Nat) (G : MH), k + r = 4 → RT T L G → (∀ j, j < k → G 103 (s + j) = ro 121 (0 + j)) → ∃ G1, Run (d + 6) 190 3 [vR 97, .inl 115, vR 103, .inl (s : Int), vR 127, .inl (k : Int), vU] [] (mg G a (-1)) = Run (d + 6) 190 45 [vR 97, .inl 115, vR 103, .inl (s : Int), vR 127, .inl ((0 : Nat) : Int), .inl (ixN 0 (lkG T L (skF T L a)) 4 0)] [] (mg G1 (skF T L a) (-1)) ∧ (∀ c, c ≠ 103 → G1 c = G c) ∧ (∀ j, (j < s ∨ s + 4 ≤ j) → G1 103 j = G 103 j) ∧ ∀ j, j < 4 → G1 103 (s + j) = ro 121 (0 + j) := by
    intro r
    induction r with
    | zero =>
      intro k G hk t hw
      have hd := q190_3_2 (d + 5) 115 (s : Int) (k : Int) vU rfl (mg G a (-1))
      rw [s_len127 (d + 4), cI_some, if_pos (by omega), m_look t _ _ ha, cI_some, m_spot127, cI_some, sp_ix103] at hd
      exact ⟨G, hd, fun _ _ => rfl, fun _ _ => rfl, fun j hj => hw j (by omega)⟩
    | succ r ih =>
      intro k G hk t hw
      have hd := q190_3_2 (d + 5) 115 (s : Int) (k : Int) vU rfl (mg G a (-1))
      rw [s_len127 (d + 4), cI_some, if_neg (by omega), m_usual103 _ _ (by omega), cI_some, wI_ok (x := (s : Int) + k) (by omega) (by omega), if_pos (by omega), show ((s : Int) + k).toNat = s + k by omega, mg_up _ _ _ _ (by omega), wI_ok (x := (k : Int) + 1) (by omega) (by omega)] at hd
      obtain ⟨G1, u1, u2, u3, u4⟩ := ih (k + 1) (up G 103 (s + k) (ro 121 (0 + k))) (by omega) (t.up (by omega) (by omega) (by omega)) (fun j hj => by
        by_cases z : j = k
        · rw [z, up_s]
        · rw [up_i (by omega)]; exact hw j (by omega))
      exact ⟨G1, hd.trans u1, fun c hc => by rw [u2 c hc, up_ne hc], fun j hj => by rw [u3 j hj, up_i (by omega)], u4⟩
  obtain ⟨G1, v1, v2, v3, v4⟩ := lp 4 0 G (by omega) t (fun j hj => by omega)
  have t1 : RT T L G1 := t.mv (by rw [v2 _ (by omega)]) (by rw [v2 _ (by omega)]) (by rw [v2 _ (by omega)]) (v2 _ (by omega)) (v2 _ (by omega))
  obtain ⟨G2, u1, u2, u3, u4⟩ := m_itemsL103 L9 d s hs (4 + 1) 0 a 0 (fun _ => false) (fun k => ro 121 (0 + k)) G1 (by omega) ha t1 (by omega) (fun k _ => Nat.zero_testBit _) (by decide) v4
  refine ⟨G2, ?_, fun c hc => by rw [u2 c hc, v2 c hc], fun j hj => by rw [u3 j hj, v3 j hj], u4⟩
  rw [q190_0_2]
  exact v1.trans u1
theorem sp_ix105 (x : Int) : fiN 135 3 x 3 0 = ixN 4 x 3 0 := by
  have e : ∀ k : Fin 3, chF 135 k = chF 131 (4 + k) := by decide +kernel
  exact fi_ix (fun k hk => e ⟨k, hk⟩) 3 0 rfl
theorem m_least105 (d : Nat) (h : MH) {k : Nat} (hk : k < 3) : Run d 193 0 [.inl 102, .inl (k : Int)] [] h = some (some (.inl (ro 122 (4 + k))), h) := by
  have c : k = 0 ∨ k = 1 ∨ k = 2 ∨ k = 3 := by omega
  rcases c with rfl | rfl | rfl | rfl
  all_goals first | (exfalso; omega) | (rw [q193_0]; rfl)
theorem m_most105 (d : Nat) (h : MH) {k : Nat} (hk : k < 3) : Run d 194 0 [.inl 102, .inl (k : Int)] [] h = some (some (.inl (ro 123 (4 + k))), h) := by
  have c : k = 0 ∨ k = 1 ∨ k = 2 ∨ k = 3 := by omega
  rcases c with rfl | rfl | rfl | rfl
  all_goals first | (exfalso; omega) | (rw [q194_0]; rfl)
theorem m_usual105 (d : Nat) (h : MH) {k : Nat} (hk : k < 3) : Run d 186 0 [.inl 102, .inl (k : Int)] [] h = some (some (.inl (ro 121 (4 + k))), h) := by
  have c : k = 0 ∨ k = 1 ∨ k = 2 ∨ k = 3 := by omega
  rcases c with rfl | rfl | rfl | rfl
  all_goals first | (exfalso; omega) | (rw [q186_0]; rfl)
theorem m_itemsL105 {T : Nat → Int} {L : Nat} (L9 : L ≤ 240) (d s : Nat) (hs : s + 3 ≤ 24) : ∀ (r i a X : Nat) (tl : Nat → Bool) (w : Nat → Int) (G : MH), i + r = 3 + 1 → a ≤ L → RT T L G → X < 2 ^ 3 → (∀ k, k < 3 → X.testBit k = tl k) → cnF tl 3 = i → (∀ k, k < 3 → G 105 (s + k) = w k) →
    ∃ G2, Run (d + 6) 190 45 [vR 97, .inl 102, vR 105, .inl (s : Int), vR 128, .inl (X : Int), .inl (ixN 4 (lkG T L (skF T L a)) 3 0)] [] (mg G (skF T L a) (-1)) = some (none, mg G2 (imF 4 3 T L r a tl w).1 (flO (imF 4 3 T L r a tl w))) ∧ (∀ c, c ≠ 105 → G2 c = G c) ∧ (∀ j, (j < s ∨ s + 3 ≤ j) → G2 105 j = G 105 j) ∧ ∀ w2, (imF 4 3 T L r a tl w).2 = some w2 → ∀ k, k < 3 → G2 105 (s + k) = w2 k := by
  intro r
  induction r with
  | zero =>
    intro i a X tl w G hi ha t hX hb hc hw
    have := cnF_le tl 3
    omega
  | succ r ih =>
    intro i a X tl w G hi ha t hX hb hc hw
    have s0 := sk_L (T := T) ha
    unfold imF
    obtain ⟨x, hx⟩ : ∃ x, x = ixN 4 (lkG T L (skF T L a)) 3 0 := ⟨_, rfl⟩
    have xb := ix_b 4 (lkG T L (skF T L a)) 3 0
    rw [← hx] at xb ⊢
    have hd := q190_45_1 (d + 5) 102 (s : Int) (X : Int) x (mg G (skF T L a) (-1))
    by_cases q0 : x = -1
    · rw [if_pos q0] at hd
      rw [if_pos q0]
      refine ⟨G, hd, fun _ _ => rfl, fun _ _ => rfl, fun w2 hw2 k hk => ?_⟩
      rw [← Option.some.inj hw2]
      exact hw k hk
    · have pL : skF T L a < L := ix_L (f0 := 4) (n := 3) (by omega) (by rw [← hx]; exact q0)
      obtain ⟨k, hk⟩ : ∃ k : Nat, x = k := ⟨x.toNat, by omega⟩
      subst hk
      have kN : k < 3 := by omega
      have pw : 2 ^ (k) < 2147483648 := Nat.lt_of_lt_of_le (Nat.pow_lt_pow_right (by omega) (show k < 10 by omega)) (by decide)
      rw [if_neg q0, mg_fl, if_neg (fun z => z rfl), m_has, cI_some, bit_n (by omega) (by omega), hb k kN] at hd
      rw [if_neg q0, show ((k : Nat) : Int).toNat = k by omega]
      by_cases q1 : tl k = true
      · rw [bi_t q1, if_neg (by omega), m_fails, cI_some, if_pos rfl] at hd
        rw [if_pos q1]
        exact ⟨G, hd, fun _ _ => rfl, fun _ _ => rfl, fun w2 hw2 => by cases hw2⟩
      · rw [if_neg q1]
        have p1L := sk_L (T := T) (show skF T L a + 1 ≤ L from pL)
        have rb := ro_b (k := 4 + k) (by omega)
        rw [bi_f q1, if_pos rfl, mg_at, wI_ok (x := (skF T L a : Int) + 1) (by omega) (by omega), show up (mg G (skF T L a) (-1)) 97 10 ((skF T L a : Int) + 1) = mg G (skF T L a + 1) (-1) from mg_a G _ (skF T L a + 1) (-1), m_least105 _ _ kN, cI_some, m_most105 _ _ kN, cI_some, m_number t L9 (d + 4) (show skF T L a + 1 ≤ L from pL) _ _ (by unfold inI; omega) (by unfold inI; omega), cI_some, wI_ok (x := (s : Int) + k) (by omega) (by omega), if_pos (by omega), show ((s : Int) + k).toNat = s + k by omega, mg_up _ _ _ _ (by omega), mg_fl, iShl_n _ (by omega), iOr_n (by omega) pw] at hd
        have nl := nm_L (T := T) 2 (skF T L (skF T L a + 1)) 0 false p1L
        obtain ⟨nr, hnr⟩ : ∃ nr, nr = nrF T L (skF T L (skF T L a + 1)) (ro 122 (4 + k)) (ro 123 (4 + k)) := ⟨_, rfl⟩
        rw [← hnr] at hd
        obtain ⟨na, nf, nv⟩ := nr
        unfold nrF at hnr
        generalize nmF T L 2 (skF T L (skF T L a + 1)) 0 false = o at nl hnr ⊢
        obtain ⟨q, o⟩ := o
        have qL : q ≤ L := nl.2
        have stop : ∀ (GX : MH) (aX XX : Nat) (f : Int), ¬ f = -1 → Run (d + 6) 190 45 [vR 97, .inl 102, vR 105, .inl (s : Int), vR 128, .inl (XX : Int), .inl (k : Int)] [] (mg GX aX f) = some (none, mg GX aX f) := by
          intro GX aX XX f hf
          rw [q190_45_1, if_neg (by omega), mg_fl, if_pos hf]
        cases o with
        | none =>
          cases hnr
          rw [if_pos (by dsimp only; omega)] at hd
          refine ⟨_, hd.trans (stop _ _ _ _ (by dsimp only; omega)), fun c hc => up_ne hc, fun j hj => up_i (by omega), fun w2 hw2 => by cases hw2⟩
        | some v =>
          dsimp only at hnr ⊢
          by_cases q2 : ro 122 (4 + k) ≤ v ∧ v ≤ ro 123 (4 + k)
          · rw [if_pos q2] at hnr
            cases hnr
            rw [if_neg (by omega)]
            have t2 : RT T L (up G 105 (s + k) nv) := t.up (by omega) (by omega) (by omega)
            rw [if_neg (fun z => z rfl)] at hd
            dsimp only at hd
            rw [m_look t2 _ _ qL, cI_some, m_spot128, cI_some, sp_ix105] at hd
            obtain ⟨G2, u1, u2, u3, u4⟩ := ih (i + 1) na (X ||| 2 ^ k) (tlS tl k) (su w k nv) (up G 105 (s + k) nv) (by omega) qL t2 (Nat.or_lt_two_pow hX (Nat.pow_lt_pow_right (by omega) (by omega))) (by
              intro j hj
              rw [Nat.testBit_or, hb j hj, Nat.testBit_two_pow]
              unfold tlS
              by_cases z : j = k
              · subst z; rw [if_pos rfl]; simp
              · rw [if_neg z, decide_eq_false (by omega), Bool.or_false]) (by
              rw [cn_tl (Bool.eq_false_iff.2 q1), hc, if_pos kN]) (by
              intro j hj
              unfold su
              by_cases z : j = k
              · rw [if_pos z, z, up_s]
              · rw [if_neg z, up_i (by omega), hw j hj])
            refine ⟨G2, hd.trans u1, fun c hc => by rw [u2 c hc, up_ne hc], fun j hj => by rw [u3 j hj, up_i (by omega)], u4⟩
          · rw [if_neg q2] at hnr
            cases hnr
            rw [if_pos (by omega)]
            rw [if_pos (by dsimp only; omega)] at hd
            refine ⟨_, hd.trans (stop _ _ _ _ (by dsimp only; omega)), fun c hc => up_ne hc, fun j hj => up_i (by omega), fun w2 hw2 => by cases hw2⟩
theorem m_readItems105 {T : Nat → Int} {L : Nat} (L9 : L ≤ 240) (d : Nat) {s a : Nat} (hs : s + 3 ≤ 24) {G : MH} (t : RT T L G) (ha : a ≤ L) :
    ∃ G2, Run (d + 6) 190 0 [vR 97, .inl 102, vR 105, .inl (s : Int), vR 128, vU, vU] [] (mg G a (-1)) = some (none, mg G2 (imF 4 3 T L (3 + 1) a (fun _ => false) (fun k => ro 121 (4 + k))).1 (flO (imF 4 3 T L (3 + 1) a (fun _ => false) (fun k => ro 121 (4 + k))))) ∧ (∀ c, c ≠ 105 → G2 c = G c) ∧ (∀ j, (j < s ∨ s + 3 ≤ j) → G2 105 j = G 105 j) ∧ ∀ w2, (imF 4 3 T L (3 + 1) a (fun _ => false) (fun k => ro 121 (4 + k))).2 = some w2 → ∀ k, k < 3 → G2 105 (s + k) = w2 k := by
  have lp : ∀ (r k : Nat) (G : MH), k + r = 3 → RT T L G → (∀ j, j < k → G 105 (s + j) = ro 121 (4 + j)) → ∃ G1, Run (d + 6) 190 3 [vR 97, .inl 102, vR 105, .inl (s : Int), vR 128, .inl (k : Int), vU] [] (mg G a (-1)) = Run (d + 6) 190 45 [vR 97, .inl 102, vR 105, .inl (s : Int), vR 128, .inl ((0 : Nat) : Int), .inl (ixN 4 (lkG T L (skF T L a)) 3 0)] [] (mg G1 (skF T L a) (-1)) ∧ (∀ c, c ≠ 105 → G1 c = G c) ∧ (∀ j, (j < s ∨ s + 3 ≤ j) → G1 105 j = G 105 j) ∧ ∀ j, j < 3 → G1 105 (s + j) = ro 121 (4 + j) := by
    intro r
    induction r with
    | zero =>
      intro k G hk t hw
      have hd := q190_3_1 (d + 5) 102 (s : Int) (k : Int) vU rfl (mg G a (-1))
      rw [s_len128 (d + 4), cI_some, if_pos (by omega), m_look t _ _ ha, cI_some, m_spot128, cI_some, sp_ix105] at hd
      exact ⟨G, hd, fun _ _ => rfl, fun _ _ => rfl, fun j hj => hw j (by omega)⟩
    | succ r ih =>
      intro k G hk t hw
      have hd := q190_3_1 (d + 5) 102 (s : Int) (k : Int) vU rfl (mg G a (-1))
      rw [s_len128 (d + 4), cI_some, if_neg (by omega), m_usual105 _ _ (by omega), cI_some, wI_ok (x := (s : Int) + k) (by omega) (by omega), if_pos (by omega), show ((s : Int) + k).toNat = s + k by omega, mg_up _ _ _ _ (by omega), wI_ok (x := (k : Int) + 1) (by omega) (by omega)] at hd
      obtain ⟨G1, u1, u2, u3, u4⟩ := ih (k + 1) (up G 105 (s + k) (ro 121 (4 + k))) (by omega) (t.up (by omega) (by omega) (by omega)) (fun j hj => by
        by_cases z : j = k
        · rw [z, up_s]
        · rw [up_i (by omega)]; exact hw j (by omega))
      exact ⟨G1, hd.trans u1, fun c hc => by rw [u2 c hc, up_ne hc], fun j hj => by rw [u3 j hj, up_i (by omega)], u4⟩
  obtain ⟨G1, v1, v2, v3, v4⟩ := lp 3 0 G (by omega) t (fun j hj => by omega)
  have t1 : RT T L G1 := t.mv (by rw [v2 _ (by omega)]) (by rw [v2 _ (by omega)]) (by rw [v2 _ (by omega)]) (v2 _ (by omega)) (v2 _ (by omega))
  obtain ⟨G2, u1, u2, u3, u4⟩ := m_itemsL105 L9 d s hs (3 + 1) 0 a 0 (fun _ => false) (fun k => ro 121 (4 + k)) G1 (by omega) ha t1 (by omega) (fun k _ => Nat.zero_testBit _) (by decide) v4
  refine ⟨G2, ?_, fun c hc => by rw [u2 c hc, v2 c hc], fun j hj => by rw [u3 j hj, v3 j hj], u4⟩
  rw [q190_0_1]
  exact v1.trans u1
theorem sp_ix107 (x : Int) : fiN 136 3 x 3 0 = ixN 7 x 3 0 := by
  have e : ∀ k : Fin 3, chF 136 k = chF 131 (7 + k) := by decide +kernel
  exact fi_ix (fun k hk => e ⟨k, hk⟩) 3 0 rfl
theorem m_least107 (d : Nat) (h : MH) {k : Nat} (hk : k < 3) : Run d 193 0 [.inl 99, .inl (k : Int)] [] h = some (some (.inl (ro 122 (7 + k))), h) := by
  have c : k = 0 ∨ k = 1 ∨ k = 2 ∨ k = 3 := by omega
  rcases c with rfl | rfl | rfl | rfl
  all_goals first | (exfalso; omega) | (rw [q193_0]; rfl)
theorem m_most107 (d : Nat) (h : MH) {k : Nat} (hk : k < 3) : Run d 194 0 [.inl 99, .inl (k : Int)] [] h = some (some (.inl (ro 123 (7 + k))), h) := by
  have c : k = 0 ∨ k = 1 ∨ k = 2 ∨ k = 3 := by omega
  rcases c with rfl | rfl | rfl | rfl
  all_goals first | (exfalso; omega) | (rw [q194_0]; rfl)
theorem m_usual107 (d : Nat) (h : MH) {k : Nat} (hk : k < 3) : Run d 186 0 [.inl 99, .inl (k : Int)] [] h = some (some (.inl (ro 121 (7 + k))), h) := by
  have c : k = 0 ∨ k = 1 ∨ k = 2 ∨ k = 3 := by omega
  rcases c with rfl | rfl | rfl | rfl
  all_goals first | (exfalso; omega) | (rw [q186_0]; rfl)
theorem m_itemsL107 {T : Nat → Int} {L : Nat} (L9 : L ≤ 240) (d s : Nat) (hs : s + 3 ≤ 15) : ∀ (r i a X : Nat) (tl : Nat → Bool) (w : Nat → Int) (G : MH), i + r = 3 + 1 → a ≤ L → RT T L G → X < 2 ^ 3 → (∀ k, k < 3 → X.testBit k = tl k) → cnF tl 3 = i → (∀ k, k < 3 → G 107 (s + k) = w k) →
    ∃ G2, Run (d + 6) 190 45 [vR 97, .inl 99, vR 107, .inl (s : Int), vR 129, .inl (X : Int), .inl (ixN 7 (lkG T L (skF T L a)) 3 0)] [] (mg G (skF T L a) (-1)) = some (none, mg G2 (imF 7 3 T L r a tl w).1 (flO (imF 7 3 T L r a tl w))) ∧ (∀ c, c ≠ 107 → G2 c = G c) ∧ (∀ j, (j < s ∨ s + 3 ≤ j) → G2 107 j = G 107 j) ∧ ∀ w2, (imF 7 3 T L r a tl w).2 = some w2 → ∀ k, k < 3 → G2 107 (s + k) = w2 k := by
  intro r
  induction r with
  | zero =>
    intro i a X tl w G hi ha t hX hb hc hw
    have := cnF_le tl 3
    omega
  | succ r ih =>
    intro i a X tl w G hi ha t hX hb hc hw
    have s0 := sk_L (T := T) ha
    unfold imF
    obtain ⟨x, hx⟩ : ∃ x, x = ixN 7 (lkG T L (skF T L a)) 3 0 := ⟨_, rfl⟩
    have xb := ix_b 7 (lkG T L (skF T L a)) 3 0
    rw [← hx] at xb ⊢
    have hd := q190_45 (d + 5) 99 (s : Int) (X : Int) x (mg G (skF T L a) (-1))
    by_cases q0 : x = -1
    · rw [if_pos q0] at hd
      rw [if_pos q0]
      refine ⟨G, hd, fun _ _ => rfl, fun _ _ => rfl, fun w2 hw2 k hk => ?_⟩
      rw [← Option.some.inj hw2]
      exact hw k hk
    · have pL : skF T L a < L := ix_L (f0 := 7) (n := 3) (by omega) (by rw [← hx]; exact q0)
      obtain ⟨k, hk⟩ : ∃ k : Nat, x = k := ⟨x.toNat, by omega⟩
      subst hk
      have kN : k < 3 := by omega
      have pw : 2 ^ (k) < 2147483648 := Nat.lt_of_lt_of_le (Nat.pow_lt_pow_right (by omega) (show k < 10 by omega)) (by decide)
      rw [if_neg q0, mg_fl, if_neg (fun z => z rfl), m_has, cI_some, bit_n (by omega) (by omega), hb k kN] at hd
      rw [if_neg q0, show ((k : Nat) : Int).toNat = k by omega]
      by_cases q1 : tl k = true
      · rw [bi_t q1, if_neg (by omega), m_fails, cI_some, if_pos rfl] at hd
        rw [if_pos q1]
        exact ⟨G, hd, fun _ _ => rfl, fun _ _ => rfl, fun w2 hw2 => by cases hw2⟩
      · rw [if_neg q1]
        have p1L := sk_L (T := T) (show skF T L a + 1 ≤ L from pL)
        have rb := ro_b (k := 7 + k) (by omega)
        rw [bi_f q1, if_pos rfl, mg_at, wI_ok (x := (skF T L a : Int) + 1) (by omega) (by omega), show up (mg G (skF T L a) (-1)) 97 10 ((skF T L a : Int) + 1) = mg G (skF T L a + 1) (-1) from mg_a G _ (skF T L a + 1) (-1), m_least107 _ _ kN, cI_some, m_most107 _ _ kN, cI_some, m_number t L9 (d + 4) (show skF T L a + 1 ≤ L from pL) _ _ (by unfold inI; omega) (by unfold inI; omega), cI_some, wI_ok (x := (s : Int) + k) (by omega) (by omega), if_pos (by omega), show ((s : Int) + k).toNat = s + k by omega, mg_up _ _ _ _ (by omega), mg_fl, iShl_n _ (by omega), iOr_n (by omega) pw] at hd
        have nl := nm_L (T := T) 2 (skF T L (skF T L a + 1)) 0 false p1L
        obtain ⟨nr, hnr⟩ : ∃ nr, nr = nrF T L (skF T L (skF T L a + 1)) (ro 122 (7 + k)) (ro 123 (7 + k)) := ⟨_, rfl⟩
        rw [← hnr] at hd
        obtain ⟨na, nf, nv⟩ := nr
        unfold nrF at hnr
        generalize nmF T L 2 (skF T L (skF T L a + 1)) 0 false = o at nl hnr ⊢
        obtain ⟨q, o⟩ := o
        have qL : q ≤ L := nl.2
        have stop : ∀ (GX : MH) (aX XX : Nat) (f : Int), ¬ f = -1 → Run (d + 6) 190 45 [vR 97, .inl 99, vR 107, .inl (s : Int), vR 129, .inl (XX : Int), .inl (k : Int)] [] (mg GX aX f) = some (none, mg GX aX f) := by
          intro GX aX XX f hf
          rw [q190_45, if_neg (by omega), mg_fl, if_pos hf]
        cases o with
        | none =>
          cases hnr
          rw [if_pos (by dsimp only; omega)] at hd
          refine ⟨_, hd.trans (stop _ _ _ _ (by dsimp only; omega)), fun c hc => up_ne hc, fun j hj => up_i (by omega), fun w2 hw2 => by cases hw2⟩
        | some v =>
          dsimp only at hnr ⊢
          by_cases q2 : ro 122 (7 + k) ≤ v ∧ v ≤ ro 123 (7 + k)
          · rw [if_pos q2] at hnr
            cases hnr
            rw [if_neg (by omega)]
            have t2 : RT T L (up G 107 (s + k) nv) := t.up (by omega) (by omega) (by omega)
            rw [if_neg (fun z => z rfl)] at hd
            dsimp only at hd
            rw [m_look t2 _ _ qL, cI_some, m_spot129, cI_some, sp_ix107] at hd
            obtain ⟨G2, u1, u2, u3, u4⟩ := ih (i + 1) na (X ||| 2 ^ k) (tlS tl k) (su w k nv) (up G 107 (s + k) nv) (by omega) qL t2 (Nat.or_lt_two_pow hX (Nat.pow_lt_pow_right (by omega) (by omega))) (by
              intro j hj
              rw [Nat.testBit_or, hb j hj, Nat.testBit_two_pow]
              unfold tlS
              by_cases z : j = k
              · subst z; rw [if_pos rfl]; simp
              · rw [if_neg z, decide_eq_false (by omega), Bool.or_false]) (by
              rw [cn_tl (Bool.eq_false_iff.2 q1), hc, if_pos kN]) (by
              intro j hj
              unfold su
              by_cases z : j = k
              · rw [if_pos z, z, up_s]
              · rw [if_neg z, up_i (by omega), hw j hj])
            refine ⟨G2, hd.trans u1, fun c hc => by rw [u2 c hc, up_ne hc], fun j hj => by rw [u3 j hj, up_i (by omega)], u4⟩
          · rw [if_neg q2] at hnr
            cases hnr
            rw [if_pos (by omega)]
            rw [if_pos (by dsimp only; omega)] at hd
            refine ⟨_, hd.trans (stop _ _ _ _ (by dsimp only; omega)), fun c hc => up_ne hc, fun j hj => up_i (by omega), fun w2 hw2 => by cases hw2⟩
theorem m_readItems107 {T : Nat → Int} {L : Nat} (L9 : L ≤ 240) (d : Nat) {s a : Nat} (hs : s + 3 ≤ 15) {G : MH} (t : RT T L G) (ha : a ≤ L) :
    ∃ G2, Run (d + 6) 190 0 [vR 97, .inl 99, vR 107, .inl (s : Int), vR 129, vU, vU] [] (mg G a (-1)) = some (none, mg G2 (imF 7 3 T L (3 + 1) a (fun _ => false) (fun k => ro 121 (7 + k))).1 (flO (imF 7 3 T L (3 + 1) a (fun _ => false) (fun k => ro 121 (7 + k))))) ∧ (∀ c, c ≠ 107 → G2 c = G c) ∧ (∀ j, (j < s ∨ s + 3 ≤ j) → G2 107 j = G 107 j) ∧ ∀ w2, (imF 7 3 T L (3 + 1) a (fun _ => false) (fun k => ro 121 (7 + k))).2 = some w2 → ∀ k, k < 3 → G2 107 (s + k) = w2 k := by
  have lp : ∀ (r k : Nat) (G : MH), k + r = 3 → RT T L G → (∀ j, j < k → G 107 (s + j) = ro 121 (7 + j)) → ∃ G1, Run (d + 6) 190 3 [vR 97, .inl 99, vR 107, .inl (s : Int), vR 129, .inl (k : Int), vU] [] (mg G a (-1)) = Run (d + 6) 190 45 [vR 97, .inl 99, vR 107, .inl (s : Int), vR 129, .inl ((0 : Nat) : Int), .inl (ixN 7 (lkG T L (skF T L a)) 3 0)] [] (mg G1 (skF T L a) (-1)) ∧ (∀ c, c ≠ 107 → G1 c = G c) ∧ (∀ j, (j < s ∨ s + 3 ≤ j) → G1 107 j = G 107 j) ∧ ∀ j, j < 3 → G1 107 (s + j) = ro 121 (7 + j) := by
    intro r
    induction r with
    | zero =>
      intro k G hk t hw
      have hd := q190_3 (d + 5) 99 (s : Int) (k : Int) vU rfl (mg G a (-1))
      rw [s_len129 (d + 4), cI_some, if_pos (by omega), m_look t _ _ ha, cI_some, m_spot129, cI_some, sp_ix107] at hd
      exact ⟨G, hd, fun _ _ => rfl, fun _ _ => rfl, fun j hj => hw j (by omega)⟩
    | succ r ih =>
      intro k G hk t hw
      have hd := q190_3 (d + 5) 99 (s : Int) (k : Int) vU rfl (mg G a (-1))
      rw [s_len129 (d + 4), cI_some, if_neg (by omega), m_usual107 _ _ (by omega), cI_some, wI_ok (x := (s : Int) + k) (by omega) (by omega), if_pos (by omega), show ((s : Int) + k).toNat = s + k by omega, mg_up _ _ _ _ (by omega), wI_ok (x := (k : Int) + 1) (by omega) (by omega)] at hd
      obtain ⟨G1, u1, u2, u3, u4⟩ := ih (k + 1) (up G 107 (s + k) (ro 121 (7 + k))) (by omega) (t.up (by omega) (by omega) (by omega)) (fun j hj => by
        by_cases z : j = k
        · rw [z, up_s]
        · rw [up_i (by omega)]; exact hw j (by omega))
      exact ⟨G1, hd.trans u1, fun c hc => by rw [u2 c hc, up_ne hc], fun j hj => by rw [u3 j hj, up_i (by omega)], u4⟩
  obtain ⟨G1, v1, v2, v3, v4⟩ := lp 3 0 G (by omega) t (fun j hj => by omega)
  have t1 : RT T L G1 := t.mv (by rw [v2 _ (by omega)]) (by rw [v2 _ (by omega)]) (by rw [v2 _ (by omega)]) (v2 _ (by omega)) (v2 _ (by omega))
  obtain ⟨G2, u1, u2, u3, u4⟩ := m_itemsL107 L9 d s hs (3 + 1) 0 a 0 (fun _ => false) (fun k => ro 121 (7 + k)) G1 (by omega) ha t1 (by omega) (fun k _ => Nat.zero_testBit _) (by decide) v4
  refine ⟨G2, ?_, fun c hc => by rw [u2 c hc, v2 c hc], fun j hj => by rw [u3 j hj, v3 j hj], u4⟩
  rw [q190_0]
  exact v1.trans u1
