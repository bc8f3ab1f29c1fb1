/-! ask -/
/-- k shots tried: the best, and how many it leaves together -/
def asF (M : Int → Int → Int) (N : Int) : Nat → Int × Int
  | 0 => (-1, N + 1)
  | k + 1 => if M ((k / 20 : Nat) : Int) ((k % 20 + 1 : Nat) : Int) < (asF M N k).2 then (100 * ((k / 20 : Nat) : Int) + ((k % 20 + 1 : Nat) : Int), M ((k / 20 : Nat) : Int) ((k % 20 + 1 : Nat) : Int)) else asF M N k
theorem asF_b {M : Int → Int → Int} {N : Int} (hM : ∀ w p, 0 ≤ M w p ∧ M w p ≤ N) : ∀ k, 1 ≤ k → 1 ≤ (asF M N k).1 ∧ 0 ≤ (asF M N k).2 ∧ (asF M N k).2 ≤ N
  | 0, h => by omega
  | k + 1, _ => by
    have hm := hM ((k / 20 : Nat) : Int) ((k % 20 + 1 : Nat) : Int)
    unfold asF
    by_cases q : M ((k / 20 : Nat) : Int) ((k % 20 + 1 : Nat) : Int) < (asF M N k).2
    · rw [if_pos q]
      dsimp only
      omega
    · rw [if_neg q]
      by_cases z : k = 0
      · subst z
        exfalso
        apply q
        show _ < N + 1
        omega
      · exact asF_b hM k (by omega)
theorem e_tellingShot {b : Int} {Ws : Nat → WF} {h : MH} (i : InvB b Ws h) (d : Nat) {c f : Int} (hf : fitR (pfF Ws h) 20 h) (hc0 : 0 ≤ c) (hc1 : c < h 2 4) (hf0 : 0 ≤ f) (hf1 : f < h 2 3) :
    ∃ h1, Run (d + 6) 154 0 [vR 10, .inl c, .inl f, vU, vU, vU, vU, vU] [] h = some (some (.inl (if cnF (pfF Ws h) 20 = 0 then -1 else (asF (fun w p => (tlF (rkF Ws h c f p w) (pfF Ws h) 20).2) (cnF (pfF Ws h) 20) 40).1)), h1) ∧ EG h h1 := by
  have cl := cnF_le (pfF Ws h) 20
  rw [q154_0, hf.1, wI_ok (by omega) (by omega)]
  by_cases q : cnF (pfF Ws h) 20 = 0
  · refine ⟨h, ?_, EG.rf h⟩
    rw [q154_13 (hz5 := rfl) (hz6 := rfl), if_neg (by omega), hf.1, if_pos (by omega), if_pos q]
  · rw [if_neg q]
    have key : ∀ (r k : Nat) (g : MH) (z : MV), cat z = 1 → k + r = 40 → 1 ≤ r → (∀ a, a ≠ 23 → a ≠ 30 → a ≠ 47 → g a = h a) → ∃ g2, Run (d + 6) 154 29 [vR 10, .inl c, .inl f, .inl (asF (fun w p => (tlF (rkF Ws h c f p w) (pfF Ws h) 20).2) (cnF (pfF Ws h) 20) k).1, .inl (asF (fun w p => (tlF (rkF Ws h c f p w) (pfF Ws h) 20).2) (cnF (pfF Ws h) 20) k).2, .inl ((k / 20 : Nat) : Int), .inl ((k % 20 + 1 : Nat) : Int), z] [] g = some (some (.inl (asF (fun w p => (tlF (rkF Ws h c f p w) (pfF Ws h) 20).2) (cnF (pfF Ws h) 20) 40).1), g2) ∧ ∀ a, a ≠ 23 → a ≠ 30 → a ≠ 47 → g2 a = h a := by
      intro r
      induction r with
      | zero => intro k g z hz hk h1; omega
      | succ r ih =>
        intro k g z hz hk _ eg
        have eq : Eqv h g := fun a j r => by
          rw [eg a (fun z => by subst z; exact Bool.false_ne_true r) (fun z => by subst z; exact Bool.false_ne_true r) (fun z => by subst z; exact Bool.false_ne_true r)]
        obtain ⟨d1, d2, d3, d4, d5, d6, d7⟩ := eq.dat
        have ep : pfF Ws g = pfF Ws h := by funext k; unfold pfF; rw [eq.pf]
        have er : ∀ p w, rkF Ws g c f p w = rkF Ws h c f p w := fun p w => by funext k; unfold rkF; rw [d1, d2, d3]
        have hfg : fitR (pfF Ws g) 20 g := by
          rw [ep]
          refine ⟨by rw [eg _ (by omega) (by omega) (by omega)]; exact hf.1, fun k hk hp => by rw [eg _ (by omega) (by omega) (by omega)]; exact hf.2 k hk hp⟩
        obtain ⟨g1, r1, r2⟩ := e_mostTogether (eq.B i) d (c := c) (f := f) (p := ((k % 20 + 1 : Nat) : Int)) (way := ((k / 20 : Nat) : Int)) hfg hc0 (by omega) hf0 (by omega) (by omega) (by omega)
        rw [ep, er] at r1
        have eg1 : ∀ a, a ≠ 23 → a ≠ 30 → a ≠ 47 → g1 a = h a := fun a n1 n2 n3 => by rw [r2 a n1 n2 n3, eg a n1 n2 n3]
        have st : ∃ z2, cat z2 = 1 ∧ Run (d + 6) 154 29 [vR 10, .inl c, .inl f, .inl (asF (fun w p => (tlF (rkF Ws h c f p w) (pfF Ws h) 20).2) (cnF (pfF Ws h) 20) k).1, .inl (asF (fun w p => (tlF (rkF Ws h c f p w) (pfF Ws h) 20).2) (cnF (pfF Ws h) 20) k).2, .inl ((k / 20 : Nat) : Int), .inl ((k % 20 + 1 : Nat) : Int), z] [] g = Run (d + 6) 154 29 [vR 10, .inl c, .inl f, .inl (asF (fun w p => (tlF (rkF Ws h c f p w) (pfF Ws h) 20).2) (cnF (pfF Ws h) 20) (k + 1)).1, .inl (asF (fun w p => (tlF (rkF Ws h c f p w) (pfF Ws h) 20).2) (cnF (pfF Ws h) 20) (k + 1)).2, .inl ((k / 20 : Nat) : Int), .inl (((k % 20 + 1 : Nat) : Int) + 1), z2] [] g1 := by
          refine ⟨.inl (tlF (rkF Ws h c f ((k % 20 + 1 : Nat) : Int) ((k / 20 : Nat) : Int)) (pfF Ws h) 20).2, rfl, ?_⟩
          rw [q154_29 (hz6 := hz), if_neg (by omega), r1, cI_some, wI_ok (x := ((k % 20 + 1 : Nat) : Int) + 1) (by omega) (by omega), wI_ok (x := 100 * ((k / 20 : Nat) : Int)) (by omega) (by omega), wI_ok (by omega) (by omega)]
          conv => rhs; unfold asF
          by_cases z : (tlF (rkF Ws h c f ((k % 20 + 1 : Nat) : Int) ((k / 20 : Nat) : Int)) (pfF Ws h) 20).2 < (asF (fun w p => (tlF (rkF Ws h c f p w) (pfF Ws h) 20).2) (cnF (pfF Ws h) 20) k).2
          · rw [if_neg (by omega), if_pos z]
          · rw [if_pos (by omega), if_neg z]
        obtain ⟨z2, c2, st⟩ := st
        rw [st]
        by_cases z20 : (k + 1) % 20 = 0
        · rw [q154_29 (hz6 := c2), if_pos (by omega), wI_ok (by omega) (by omega), q154_13 (hz5 := rfl) (hz6 := c2)]
          by_cases zr : r = 0
          · subst zr
            refine ⟨g1, ?_, eg1⟩
            rw [if_pos (by omega), show k + 1 = 40 by omega]
          · obtain ⟨g2, u1, u2⟩ := ih (k + 1) g1 z2 c2 (by omega) (by omega) eg1
            refine ⟨g2, ?_, u2⟩
            rw [if_neg (by omega), eg1 10 (by omega) (by omega) (by omega), hf.1, if_neg (by omega), show ((k / 20 : Nat) : Int) + 1 = (((k + 1) / 20 : Nat) : Int) by omega, show (1 : Int) = (((k + 1) % 20 + 1 : Nat) : Int) by omega]
            exact u1
        · obtain ⟨g2, u1, u2⟩ := ih (k + 1) g1 z2 c2 (by omega) (by omega) eg1
          refine ⟨g2, ?_, u2⟩
          rw [show ((k / 20 : Nat) : Int) = (((k + 1) / 20 : Nat) : Int) by omega, show ((k % 20 + 1 : Nat) : Int) + 1 = (((k + 1) % 20 + 1 : Nat) : Int) by omega]
          exact u1
    obtain ⟨g2, u1, u2⟩ := key 40 0 h vU rfl rfl (by omega) (fun _ _ _ _ => rfl)
    refine ⟨g2, ?_, fun a j n1 n2 n3 n4 n5 => by rw [u2 a n1 n2 n4]⟩
    rw [q154_13 (hz5 := rfl) (hz6 := rfl), if_neg (by omega), hf.1, if_neg (by omega)]
    exact u1
theorem m_askBits {b : Int} {Ws : Nat → WF} {h : MH} (i : InvB b Ws h) (d : Nat) {c f : Int} (z4 z5 z6 z7 z8 z9 : MV) (h4 : cat z4 = 1) (h5 : cat z5 = 1) (h6 : cat z6 = 1) (h7 : cat z7 = 1) (h8 : cat z8 = 1) (h9 : cat z9 = 1) :
    ∃ (B : Nat) (h1 : MH), B < 2 ^ 20 ∧ (∀ k, k < 20 → B.testBit k = pfF Ws h k) ∧ Eqv h h1 ∧ Run (d + 36) 280 28 [vR 97, .inl c, .inl f, .inl 0, .inl 0, z4, z5, z6, z7, z8, z9] [] h = Run (d + 36) 280 28 [vR 97, .inl c, .inl f, .inl (B : Int), .inl 20, z4, z5, z6, z7, z8, z9] [] h1 := by
  have key : ∀ (r k : Nat) (g : MH) (B : Nat), k + r = 20 → Eqv h g → B < 2 ^ k → (∀ j, j < k → B.testBit j = pfF Ws h j) → ∃ (B2 : Nat) (g2 : MH), B2 < 2 ^ 20 ∧ (∀ k, k < 20 → B2.testBit k = pfF Ws h k) ∧ Eqv h g2 ∧ Run (d + 36) 280 28 [vR 97, .inl c, .inl f, .inl (B : Int), .inl (k : Int), z4, z5, z6, z7, z8, z9] [] g = Run (d + 36) 280 28 [vR 97, .inl c, .inl f, .inl (B2 : Int), .inl 20, z4, z5, z6, z7, z8, z9] [] g2 := by
    intro r
    induction r with
    | zero =>
      intro k g B hk eg hB hb
      have : k = 20 := by omega
      subst this
      exact ⟨B, g, hB, hb, eg, rfl⟩
    | succ r ih =>
      intro k g B hk eg hB hb
      have hp : (2 : Nat) ^ k ≤ 2 ^ 19 := Nat.pow_le_pow_right (by omega) (by omega)
      have hp2 : (2 : Nat) ^ (k + 1) = 2 * 2 ^ k := by rw [Nat.pow_succ]; omega
      obtain ⟨g1, r1, r2⟩ := m_fits (eg.B i) d (code := k) (by omega)
      have ep : pfF Ws g k = pfF Ws h k := by unfold pfF; rw [eg.pf]
      rw [ep] at r1
      have eg1 := eg.tr (Eqv_pr r2)
      by_cases zp : pfF Ws h k = true
      · obtain ⟨B2, g2, u1, u2, u3, u4⟩ := ih (k + 1) g1 (B ||| 2 ^ k) (by omega) eg1 (by
            rw [hp2]
            exact Nat.lt_of_lt_of_eq (Nat.or_lt_two_pow (n := k + 1) (by rw [hp2]; omega) (by rw [hp2]; omega)) hp2) (fun j hj => by
            rw [Nat.testBit_or, Nat.testBit_two_pow]
            by_cases zj : j = k
            · subst zj; simp [zp]
            · rw [hb j (by omega)]
              have : ¬ k = j := by omega
              simp [this])
        refine ⟨B2, g2, u1, u2, u3, ?_⟩
        rw [← u4, q280_28 (hz4 := h4) (hz5 := h5) (hz6 := h6) (hz7 := h7) (hz8 := h8) (hz9 := h9), if_neg (by omega), r1, cI_some, bi_t zp, if_neg (by omega), iShl_n k (by omega), iOr_n (by omega) (by omega), wI_ok (by omega) (by omega)]
        rfl
      · obtain ⟨B2, g2, u1, u2, u3, u4⟩ := ih (k + 1) g1 B (by omega) eg1 (by rw [hp2]; omega) (fun j hj => by
            by_cases zj : j = k
            · subst zj
              rw [Nat.testBit_lt_two_pow hB]
              cases hq : pfF Ws h j
              · rfl
              · exact absurd hq zp
            · exact hb j (by omega))
        refine ⟨B2, g2, u1, u2, u3, ?_⟩
        rw [← u4, q280_28 (hz4 := h4) (hz5 := h5) (hz6 := h6) (hz7 := h7) (hz8 := h8) (hz9 := h9), if_neg (by omega), r1, cI_some, bi_f zp, if_pos rfl, or_0 (by unfold inI; omega), wI_ok (by omega) (by omega)]
        rfl
  exact key 20 0 h 0 rfl (Eqv.rf h) (by omega) (fun j hj => by omega)
theorem cn_0 (p : Nat → Bool) : ∀ n, cnF p n = 0 → ∀ k, k < n → p k = false
  | 0, _, k, hk => by omega
  | n + 1, h, k, hk => by
    unfold cnF at h
    by_cases q : p n = true
    · rw [if_pos q] at h; omega
    · rw [if_neg q] at h
      by_cases z : k = n
      · subst z
        cases hp : p k
        · rfl
        · exact absurd hp q
      · exact cn_0 p n h k (by omega)
theorem c_ask {b : Int} {Ws : Nat → WF} {h : MH} (i : InvX b Ws h) (x y : Int) : PrX b b Ws 153 280 [vR 0, .inl x, .inl y] [vR 97, .inl x, .inl y, vU, vU, vU, vU, vU, vU, vU, vU] h := by
  obtain ⟨l1, l2, l3, l4, l5, l6, l7⟩ := lg_n i.1.1
  by_cases q : (0 ≤ x ∧ x < h 2 4) ∧ (0 ≤ y ∧ y < h 2 3)
  · obtain ⟨qx, qy⟩ := q
    obtain ⟨h1, r1, e1, f0⟩ := e_weighWinds i.1 33
    obtain ⟨d1, d2, d3, d4, d5, d6, d7⟩ := e1.V.dat
    have ep : pfF Ws h1 = pfF Ws h := by funext k; unfold pfF; rw [e1.V.pf]
    have er : ∀ p w, rkF Ws h1 x y p w = rkF Ws h x y p w := fun p w => by funext k; unfold rkF; rw [d1, d2, d3]
    obtain ⟨h2, r2, e2'⟩ := e_tellingShot (e1.V.B i.1) 33 (c := x) (f := y) (by rw [ep]; exact f0) qx.1 (by omega) qy.1 (by omega)
    simp only [ep, er] at r2
    have e2 := e1.tr e2'
    have e3 : Eqv h (up h2 97 0 0) := e2.V.tr (Eqv.up rfl)
    obtain ⟨B, h3, b1, b2, b3, b4⟩ := m_askBits (e3.B i.1) 4 (c := x) (f := y) vU vU vU vU vU vU rfl rfl rfl rfl rfl rfl
    have ep3 : ∀ k, pfF Ws (up h2 97 0 0) k = pfF Ws h k := fun k => by unfold pfF; rw [e3.pf]
    have b2' : ∀ k, k < 20 → B.testBit k = pfF Ws h k := fun k hk => by rw [b2 k hk, ep3]
    have e4 := e3.tr b3
    obtain ⟨g1, g2, -⟩ := lg_n (e3.inv i.1.1)
    obtain ⟨t1, t2, t3, t4, t5, t6, t7⟩ := e3.dat
    have c1 : Run 40 153 0 [vR 0, .inl x, .inl y] [] h = some (some (.inl (if cnF (pfF Ws h) 20 = 0 then -1 else (asF (fun w p => (tlF (rkF Ws h x y p w) (pfF Ws h) 20).2) (cnF (pfF Ws h) 20) 40).1)), h2) := by
      rw [q153_0, e_hasCarrier, cI_some, bi_t qx, if_neg (by omega), e_hasFort, cI_some, bi_t qy, if_pos (by omega), r1, cV_some, r2, cI_some]
    have m1 : Run 40 280 0 [vR 97, .inl x, .inl y, vU, vU, vU, vU, vU, vU, vU, vU] [] h2 = if ¬ (B : Int) = 0 then Run 40 280 76 [vR 97, .inl x, .inl y, .inl (B : Int), .inl (-1), .inl 0, .inl 0, vU, vU, vU, vU] [] h3 else some (some (.inl (-1)), h3) := by
      rw [q280_0, m_isCarrier, cI_some, g2, t5, bi_t qx, if_neg (by omega), m_isFort, cI_some, g1, t4, bi_t qy, if_pos (by omega), b4, q280_28 (hz4 := rfl) (hz5 := rfl) (hz6 := rfl) (hz7 := rfl) (hz8 := rfl) (hz9 := rfl), if_pos (by omega)]
    by_cases zB : B = 0
    · have c0 : cnF (pfF Ws h) 20 = 0 := by
        rcases Nat.eq_zero_or_pos (cnF (pfF Ws h) 20) with z | z
        · exact z
        · obtain ⟨k, k1, k2, -⟩ := cn_find (pfF Ws h) 20 0 z
          have := b2' k k1
          rw [zB, Nat.zero_testBit, k2] at this
          exact absurd this Bool.false_ne_true
      refine ⟨-1, h2, h3, by rw [c1, if_pos c0], ?_, e4.X i⟩
      rw [m1, if_neg (by omega)]
    · have cp : cnF (pfF Ws h) 20 ≠ 0 := by
        intro z
        have z2 := cn_0 _ _ z
        apply zB
        apply Nat.eq_of_testBit_eq
        intro j
        rw [Nat.zero_testBit]
        by_cases hj : j < 20
        · rw [b2' j hj, z2 j hj]
        · exact Nat.testBit_lt_two_pow (Nat.lt_of_lt_of_le b1 (Nat.pow_le_pow_right (by omega) (by omega)))
      have hM : ∀ w p : Int, 0 ≤ (tlF (rkF Ws h x y p w) (pfF Ws h) 20).2 ∧ (tlF (rkF Ws h x y p w) (pfF Ws h) 20).2 ≤ cnF (pfF Ws h) 20 := fun w p => (tlF_b _ _ 20).2
      have key : ∀ (r k : Nat) (g : MH) (z7 z8 z9 : MV) (L : Int), cat z7 = 1 → cat z8 = 1 → cat z9 = 1 → k + r = 40 → 1 ≤ r → Eqv h g → (1 ≤ k → L = (asF (fun w p => (tlF (rkF Ws h x y p w) (pfF Ws h) 20).2) (cnF (pfF Ws h) 20) k).2) → ∃ g2, Run 40 280 85 [vR 97, .inl x, .inl y, .inl (B : Int), .inl (asF (fun w p => (tlF (rkF Ws h x y p w) (pfF Ws h) 20).2) (cnF (pfF Ws h) 20) k).1, .inl L, .inl ((k / 20 : Nat) : Int), .inl ((k % 20 + 1 : Nat) : Int), z7, z8, z9] [] g = some (some (.inl (asF (fun w p => (tlF (rkF Ws h x y p w) (pfF Ws h) 20).2) (cnF (pfF Ws h) 20) 40).1), g2) ∧ Eqv h g2 := by
        intro r
        induction r with
        | zero => intro k g z7 z8 z9 L _ _ _ hk h1; omega
        | succ r ih =>
          intro k g z7 z8 z9 L c7 c8 c9 hk _ eg hL
          obtain ⟨v1, v2, v3, v4, v5, v6, v7⟩ := eg.dat
          have ep : ∀ k, pfF Ws g k = pfF Ws h k := fun k => by unfold pfF; rw [eg.pf]
          have epf : pfF Ws g = pfF Ws h := funext ep
          have er : ∀ p w, rkF Ws g x y p w = rkF Ws h x y p w := fun p w => by funext k; unfold rkF; rw [v1, v2, v3]
          obtain ⟨g1, z9', c9', e9, u9⟩ := m_ask1 (eg.B i.1) 5 (c := x) (f := y) (p := ((k % 20 + 1 : Nat) : Int)) (way := ((k / 20 : Nat) : Int)) (A := (B : Int)) (best := (asF (fun w p => (tlF (rkF Ws h x y p w) (pfF Ws h) 20).2) (cnF (pfF Ws h) 20) k).1) (least := L) rfl (Nat.lt_of_lt_of_le b1 (by decide)) (fun k hk => by rw [ep]; exact b2' k hk) qx.1 (by omega) qy.1 (by omega) (by omega) (by omega) (by omega) z7 z8 z9 c7 c8 c9
          rw [epf, er] at u9
          have eg1 := eg.tr e9.V
          have hm := hM ((k / 20 : Nat) : Int) ((k % 20 + 1 : Nat) : Int)
          have st : ∃ L2, (L2 = (asF (fun w p => (tlF (rkF Ws h x y p w) (pfF Ws h) 20).2) (cnF (pfF Ws h) 20) (k + 1)).2) ∧ Run 40 280 85 [vR 97, .inl x, .inl y, .inl (B : Int), .inl (asF (fun w p => (tlF (rkF Ws h x y p w) (pfF Ws h) 20).2) (cnF (pfF Ws h) 20) k).1, .inl L, .inl ((k / 20 : Nat) : Int), .inl ((k % 20 + 1 : Nat) : Int), z7, z8, z9] [] g = Run 40 280 85 [vR 97, .inl x, .inl y, .inl (B : Int), .inl (asF (fun w p => (tlF (rkF Ws h x y p w) (pfF Ws h) 20).2) (cnF (pfF Ws h) 20) (k + 1)).1, .inl L2, .inl ((k / 20 : Nat) : Int), .inl (((k % 20 + 1 : Nat) : Int) + 1), .inl (tlF (rkF Ws h x y ((k % 20 + 1 : Nat) : Int) ((k / 20 : Nat) : Int)) (pfF Ws h) 20).2, .inl 20, z9'] [] g1 := by
            refine ⟨_, rfl, ?_⟩
            have e0 : Run 40 280 85 [vR 97, .inl x, .inl y, .inl (B : Int), .inl (asF (fun w p => (tlF (rkF Ws h x y p w) (pfF Ws h) 20).2) (cnF (pfF Ws h) 20) k).1, .inl L, .inl ((k / 20 : Nat) : Int), .inl ((k % 20 + 1 : Nat) : Int), z7, z8, z9] [] g = Run 40 280 125 [vR 97, .inl x, .inl y, .inl (B : Int), .inl (asF (fun w p => (tlF (rkF Ws h x y p w) (pfF Ws h) 20).2) (cnF (pfF Ws h) 20) k).1, .inl L, .inl ((k / 20 : Nat) : Int), .inl ((k % 20 + 1 : Nat) : Int), .inl (tlF (rkF Ws h x y ((k % 20 + 1 : Nat) : Int) ((k / 20 : Nat) : Int)) (pfF Ws h) 20).2, .inl 20, z9'] [] g1 := by
              rw [q280_85 (hz7 := c7) (hz8 := c8) (hz9 := c9), if_neg (by omega)]
              exact u9
            rw [e0, q280_125 (hz9 := c9'), if_pos (by omega), wI_ok (x := ((k % 20 + 1 : Nat) : Int) + 1) (by omega) (by omega), wI_ok (x := 100 * ((k / 20 : Nat) : Int)) (by omega) (by omega), wI_ok (by omega) (by omega)]
            conv => rhs; unfold asF
            by_cases zk : k = 0
            · subst zk
              have e1' : (asF (fun w p => (tlF (rkF Ws h x y p w) (pfF Ws h) 20).2) (cnF (pfF Ws h) 20) 0).1 = -1 := rfl
              have e2' : (asF (fun w p => (tlF (rkF Ws h x y p w) (pfF Ws h) 20).2) (cnF (pfF Ws h) 20) 0).2 = (cnF (pfF Ws h) 20 : Int) + 1 := rfl
              rw [if_pos e1', if_pos (by rw [e2']; omega)]
            · have bb := asF_b hM k (by omega)
              rw [if_neg (by omega), hL (by omega)]
              by_cases z : (tlF (rkF Ws h x y ((k % 20 + 1 : Nat) : Int) ((k / 20 : Nat) : Int)) (pfF Ws h) 20).2 < (asF (fun w p => (tlF (rkF Ws h x y p w) (pfF Ws h) 20).2) (cnF (pfF Ws h) 20) k).2
              · rw [if_pos z, if_pos z]
              · rw [if_neg z, if_neg z]
          obtain ⟨L2, hL2, st⟩ := st
          rw [st]
          by_cases z20 : (k + 1) % 20 = 0
          · rw [q280_85 (hz7 := rfl) (hz8 := rfl) (hz9 := c9'), if_pos (by omega), wI_ok (by omega) (by omega), q280_76 (hz6 := rfl) (hz7 := rfl) (hz8 := rfl) (hz9 := c9')]
            by_cases zr : r = 0
            · subst zr
              refine ⟨g1, ?_, eg1⟩
              rw [if_pos (by omega), show k + 1 = 40 by omega]
            · obtain ⟨g2, u1, u2⟩ := ih (k + 1) g1 (.inl (tlF (rkF Ws h x y ((k % 20 + 1 : Nat) : Int) ((k / 20 : Nat) : Int)) (pfF Ws h) 20).2) (.inl 20) z9' L2 rfl rfl c9' (by omega) (by omega) eg1 (fun _ => hL2)
              refine ⟨g2, ?_, u2⟩
              rw [if_neg (by omega), show ((k / 20 : Nat) : Int) + 1 = (((k + 1) / 20 : Nat) : Int) by omega, show (1 : Int) = (((k + 1) % 20 + 1 : Nat) : Int) by omega]
              exact u1
          · obtain ⟨g2, u1, u2⟩ := ih (k + 1) g1 (.inl (tlF (rkF Ws h x y ((k % 20 + 1 : Nat) : Int) ((k / 20 : Nat) : Int)) (pfF Ws h) 20).2) (.inl 20) z9' L2 rfl rfl c9' (by omega) (by omega) eg1 (fun _ => hL2)
            refine ⟨g2, ?_, u2⟩
            rw [← u1]
            rw [show (((k + 1) / 20 : Nat) : Int) = ((k / 20 : Nat) : Int) by omega, show (((k + 1) % 20 + 1 : Nat) : Int) = ((k % 20 + 1 : Nat) : Int) + 1 by omega]
      obtain ⟨g2', u1, u2⟩ := key 40 0 h3 vU vU vU 0 rfl rfl rfl rfl (by omega) e4 (fun z => by omega)
      refine ⟨(asF (fun w p => (tlF (rkF Ws h x y p w) (pfF Ws h) 20).2) (cnF (pfF Ws h) 20) 40).1, h2, g2', by rw [c1, if_neg cp], ?_, u2.X i⟩
      rw [m1, if_pos (by omega), q280_76 (hz6 := rfl) (hz7 := rfl) (hz8 := rfl) (hz9 := rfl), if_neg (by omega)]
      exact u1
  · refine Pr_X i (Pr_no i.1.1 (v := -1) ?_ ?_)
    · rw [q153_0, e_hasCarrier, cI_some]
      by_cases q1 : 0 ≤ x ∧ x < h 2 4
      · rw [bi_t q1, if_neg (by omega), e_hasFort, cI_some, bi_f (fun z => q ⟨q1, z⟩), if_neg (by omega)]
      · rw [bi_f q1, if_pos rfl]
    · rw [q280_0, m_isCarrier, cI_some, up_i (by omega), l2]
      by_cases q1 : 0 ≤ x ∧ x < h 2 4
      · rw [bi_t q1, if_neg (by omega), m_isFort, cI_some, up_i (by omega), l1, bi_f (fun z => q ⟨q1, z⟩), if_neg (by omega)]
      · rw [bi_f q1, if_pos rfl]
