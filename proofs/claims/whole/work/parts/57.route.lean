/-! the reference's routes -/
def ro3 (H : MH) (a b g : Int) : MH := up (up (up H 97 40 a) 97 41 b) 97 42 g
theorem ro3_3 (H : MH) (a b g a2 b2 g2 : Int) : ro3 (ro3 H a b g) a2 b2 g2 = ro3 H a2 b2 g2 := by
  funext x y
  unfold ro3
  by_cases q : x = 97
  · subst q
    by_cases q2 : y = 42
    · subst q2; rw [up_s, up_s]
    · rw [up_i q2, up_i q2]
      by_cases q1 : y = 41
      · subst q1; rw [up_s, up_s]
      · rw [up_i q1, up_i q1]
        by_cases q0 : y = 40
        · subst q0; rw [up_s, up_s]
        · rw [up_i q0, up_i q0, up_i q2, up_i q1, up_i q0]
  · rw [up_a q, up_a q, up_a q, up_a q, up_a q, up_a q, up_a q, up_a q, up_a q]
theorem ro3_h (H : MH) (a b g : Int) : ro3 H a b g 97 40 = a := by unfold ro3; rw [up_i (by omega), up_i (by omega), up_s]
theorem ro3_p (H : MH) (a b g : Int) : ro3 H a b g 97 41 = b := by unfold ro3; rw [up_i (by omega), up_s]
theorem ro3_d (H : MH) (a b g : Int) : ro3 H a b g 97 42 = g := by unfold ro3; rw [up_s]
theorem ro3_o {H : MH} {a b g : Int} {x y : Nat} (h : ¬ (x = 97 ∧ (y = 40 ∨ y = 41 ∨ y = 42))) : ro3 H a b g x y = H x y := by
  unfold ro3
  by_cases q : x = 97
  · subst q
    rw [up_i (fun z => h ⟨rfl, Or.inr (Or.inr z)⟩), up_i (fun z => h ⟨rfl, Or.inr (Or.inl z)⟩), up_i (fun z => h ⟨rfl, Or.inl z⟩)]
  · rw [up_a q, up_a q, up_a q]
def le3 (a b g k p q : Int) : Prop := a ≠ -1 ∧ (a < k ∨ (a = k ∧ (b < p ∨ (b = p ∧ g ≤ q))))
theorem le3_tr {a b g a2 b2 g2 k p q : Int} (h1 : le3 a b g a2 b2 g2) (h2 : le3 a2 b2 g2 k p q) : le3 a b g k p q := by
  unfold le3 at *
  omega
theorem m_goRoute (A : Nat → Nat → Int) (n to : Nat) (c : Int) (d : Nat) (H0 : MH) (n8 : n ≤ 8) (hto : to < n) (hc0 : 0 ≤ c) (hc1 : c < 5) (hA : ∀ f t, A f t = -1 ∨ (1 ≤ A f t ∧ A f t ≤ 20)) (ha : ∀ f t : Nat, f < n → t < n → H0 113 (64 * c.toNat + 8 * f + t) = am0 (A f t)) (hn : H0 97 26 = n) :
    ∀ (u met f hops : Nat) (pw dg a b g : Int), f < n → met < 256 → bcN met n + u = n → hops + 1 = bcN met n → 0 ≤ dg → dg < 10 ^ hops → 0 ≤ pw → pw ≤ 20 * hops → -1 ≤ a →
    ∃ a2 b2 g2, Run (d + u + 2) 268 0 [vR 97, .inl c, .inl (f : Int), .inl (to : Int), .inl (met : Int), .inl (hops : Int), .inl pw, .inl dg, vU] [] (ro3 H0 a b g) = some (none, ro3 H0 a2 b2 g2) ∧ -1 ≤ a2 ∧ ((a2 = a ∧ b2 = b ∧ g2 = g) ∨ ∃ j cc dd, Ex A n to j met f cc dg dd ∧ a2 = hops + j ∧ b2 = pw + cc ∧ g2 = dd) ∧ (a ≠ -1 → le3 a2 b2 g2 a b g) ∧ ∀ (j : Nat) (cc dd : Int), Ex A n to j met f cc dg dd → le3 a2 b2 g2 (hops + j) (pw + cc) dd := by
  have exc : ∀ (j met f : Nat) (cc dg dd : Int), Ex A n to j met f cc dg dd → 0 ≤ cc := by
    intro j
    induction j with
    | zero => intro met f cc dg dd e; obtain ⟨-, rfl, -⟩ := e; omega
    | succ j ih =>
      intro met f cc dg dd e
      obtain ⟨-, t, c0, h1, h2, h3, h4, h5⟩ := e
      have := ih _ _ _ _ _ h5
      have := hA f t
      omega
  intro u
  induction u with
  | zero =>
    intro met f hops pw dg a b g hf hmet hu hh hd0 hd1 hp0 hp1 ha1
    -- no fort is left
    have none_ : ∀ t, t < n → met.testBit t = true := by
      intro t ht
      cases hq : met.testBit t
      · exfalso
        have := bc_add hq n
        rw [if_pos ht] at this
        have := cnF_le (fun k => (met ||| 2 ^ t).testBit k) n
        unfold bcN at *
        omega
      · rfl
    have e0 : Run (d + 0 + 2) 268 0 [vR 97, .inl c, .inl (f : Int), .inl (to : Int), .inl (met : Int), .inl (hops : Int), .inl pw, .inl dg, vU] [] (ro3 H0 a b g) = if a = -1 ∨ (¬ a < hops ∧ ((hops : Int) ≠ a ∨ pw ≤ b)) then Run (d + 0 + 2) 268 36 [vR 97, .inl c, .inl (f : Int), .inl (to : Int), .inl (met : Int), .inl (hops : Int), .inl pw, .inl dg, vU] [] (ro3 H0 a b g) else some (none, ro3 H0 a b g) := by
      rw [q268_0, ro3_h, ro3_p]
      by_cases z0 : a = -1
      · rw [if_pos z0, if_pos (Or.inl z0)]
      · rw [if_neg z0]
        by_cases z1 : a < hops
        · rw [if_pos z1, if_neg (by omega)]
        · rw [if_neg z1]
          by_cases z2 : (hops : Int) = a
          · rw [if_neg (fun y => y z2)]
            by_cases z3 : pw ≤ b
            · rw [if_pos z3, if_pos (by omega)]
            · rw [if_neg z3, if_neg (by omega)]
          · rw [if_pos z2, if_pos (by omega)]
    rw [e0]
    by_cases q : a = -1 ∨ (¬ a < hops ∧ ((hops : Int) ≠ a ∨ pw ≤ b))
    · rw [if_pos q, q268_36 (hz7 := rfl)]
      by_cases qt : f = to
      · subst qt
        rw [if_neg (fun y => y rfl), ro3_h, ro3_p, ro3_d]
        have ex : ∀ (j : Nat) (cc dd : Int), Ex A n f j met f cc dg dd → j = 0 ∧ cc = 0 ∧ dd = dg := by
          intro j cc dd e
          cases j with
          | zero => exact ⟨rfl, e.2.1, e.2.2⟩
          | succ j => exact absurd rfl e.1
        by_cases z : a = hops ∧ b = pw ∧ g ≤ dg
        · rw [if_neg (by omega), if_neg (by omega), if_neg (by omega)]
          refine ⟨a, b, g, rfl, ha1, Or.inl ⟨rfl, rfl, rfl⟩, fun _ => by unfold le3; omega, fun j cc dd e => ?_⟩
          obtain ⟨rfl, rfl, rfl⟩ := ex j cc dd e
          unfold le3
          omega
        · refine ⟨hops, pw, dg, ?_, by omega, Or.inr ⟨0, 0, dg, ⟨rfl, rfl, rfl⟩, by omega, by omega, rfl⟩, fun _ => by unfold le3; omega, fun j cc dd e => ?_⟩
          · have : up (up (up (ro3 H0 a b g) 97 40 hops) 97 41 pw) 97 42 dg = ro3 H0 hops pw dg := ro3_3 _ _ _ _ _ _ _
            rw [this]
            by_cases y1 : a = hops
            · rw [if_neg (fun y => y y1)]
              by_cases y2 : b = pw
              · rw [if_neg (fun y => y y2), if_pos (by omega)]
              · rw [if_pos y2]
            · rw [if_pos y1]
          · obtain ⟨rfl, rfl, rfl⟩ := ex j cc dd e
            unfold le3
            omega
      · rw [if_pos (by omega)]
        have loop : ∀ (r k : Nat), k + r = n → Run (d + 0 + 2) 268 91 [vR 97, .inl c, .inl (f : Int), .inl (to : Int), .inl (met : Int), .inl (hops : Int), .inl pw, .inl dg, .inl (k : Int)] [] (ro3 H0 a b g) = some (none, ro3 H0 a b g) := by
          intro r
          induction r with
          | zero =>
            intro k hk
            rw [q268_91, if_pos (by rw [ro3_o (by omega), hn]; omega)]
          | succ r ih =>
            intro k hk
            rw [q268_91, if_neg (by rw [ro3_o (by omega), hn]; omega), m_has, cI_some, bit_n (by omega) (by omega), bi_t (none_ k (by omega)), if_pos (by omega), wI_ok (by omega) (by omega), ← ih (k + 1) (by omega)]
            rfl
        refine ⟨a, b, g, loop n 0 (by omega), ha1, Or.inl ⟨rfl, rfl, rfl⟩, fun _ => by unfold le3; omega, fun j cc dd e => ?_⟩
        cases j with
        | zero => exact absurd e.1 qt
        | succ j =>
          obtain ⟨-, t, c0, h1, h2, h3, h4, h5⟩ := e
          rw [none_ t h1] at h2
          cases h2
    · rw [if_neg q]
      refine ⟨a, b, g, rfl, ha1, Or.inl ⟨rfl, rfl, rfl⟩, fun _ => by unfold le3; omega, fun j cc dd e => ?_⟩
      have := exc _ _ _ _ _ _ e
      unfold le3
      omega
  | succ u ih =>
    intro met f hops pw dg a b g hf hmet hu hh hd0 hd1 hp0 hp1 ha1
    have e0 : Run (d + (u + 1) + 2) 268 0 [vR 97, .inl c, .inl (f : Int), .inl (to : Int), .inl (met : Int), .inl (hops : Int), .inl pw, .inl dg, vU] [] (ro3 H0 a b g) = if a = -1 ∨ (¬ a < hops ∧ ((hops : Int) ≠ a ∨ pw ≤ b)) then Run (d + (u + 1) + 2) 268 36 [vR 97, .inl c, .inl (f : Int), .inl (to : Int), .inl (met : Int), .inl (hops : Int), .inl pw, .inl dg, vU] [] (ro3 H0 a b g) else some (none, ro3 H0 a b g) := by
      rw [q268_0, ro3_h, ro3_p]
      by_cases z0 : a = -1
      · rw [if_pos z0, if_pos (Or.inl z0)]
      · rw [if_neg z0]
        by_cases z1 : a < hops
        · rw [if_pos z1, if_neg (by omega)]
        · rw [if_neg z1]
          by_cases z2 : (hops : Int) = a
          · rw [if_neg (fun y => y z2)]
            by_cases z3 : pw ≤ b
            · rw [if_pos z3, if_pos (by omega)]
            · rw [if_neg z3, if_neg (by omega)]
          · rw [if_pos z2, if_pos (by omega)]
    rw [e0]
    by_cases q : a = -1 ∨ (¬ a < hops ∧ ((hops : Int) ≠ a ∨ pw ≤ b))
    · rw [if_pos q, q268_36 (hz7 := rfl)]
      by_cases qt : f = to
      · subst qt
        rw [if_neg (fun y => y rfl), ro3_h, ro3_p, ro3_d]
        have ex : ∀ (j : Nat) (cc dd : Int), Ex A n f j met f cc dg dd → j = 0 ∧ cc = 0 ∧ dd = dg := by
          intro j cc dd e
          cases j with
          | zero => exact ⟨rfl, e.2.1, e.2.2⟩
          | succ j => exact absurd rfl e.1
        by_cases z : a = hops ∧ b = pw ∧ g ≤ dg
        · rw [if_neg (by omega), if_neg (by omega), if_neg (by omega)]
          refine ⟨a, b, g, rfl, ha1, Or.inl ⟨rfl, rfl, rfl⟩, fun _ => by unfold le3; omega, fun j cc dd e => ?_⟩
          obtain ⟨rfl, rfl, rfl⟩ := ex j cc dd e
          unfold le3
          omega
        · refine ⟨hops, pw, dg, ?_, by omega, Or.inr ⟨0, 0, dg, ⟨rfl, rfl, rfl⟩, by omega, by omega, rfl⟩, fun _ => by unfold le3; omega, fun j cc dd e => ?_⟩
          · have : up (up (up (ro3 H0 a b g) 97 40 hops) 97 41 pw) 97 42 dg = ro3 H0 hops pw dg := ro3_3 _ _ _ _ _ _ _
            rw [this]
            by_cases y1 : a = hops
            · rw [if_neg (fun y => y y1)]
              by_cases y2 : b = pw
              · rw [if_neg (fun y => y y2), if_pos (by omega)]
              · rw [if_pos y2]
            · rw [if_pos y1]
          · obtain ⟨rfl, rfl, rfl⟩ := ex j cc dd e
            unfold le3
            omega
      · rw [if_pos (by omega)]
        -- the first steps below k are through
        have p7 : (10 : Int) ^ hops ≤ 10000000 := by
          have h7 : hops ≤ 7 := by omega
          have := Nat.pow_le_pow_right (n := 10) (by omega) h7
          have : (10 : Int) ^ hops ≤ 10 ^ 7 := by exact_mod_cast this
          omega
        have e10 : (10 : Int) ^ (hops + 1) = 10 * 10 ^ hops := by rw [Int.pow_succ]; omega
        have loop : ∀ (r k : Nat) (a1 b1 g1 : Int), k + r = n → -1 ≤ a1 → ((a1 = a ∧ b1 = b ∧ g1 = g) ∨ ∃ j cc dd, Ex A n to j met f cc dg dd ∧ a1 = hops + j ∧ b1 = pw + cc ∧ g1 = dd) → (a ≠ -1 → le3 a1 b1 g1 a b g) → (∀ (j t : Nat) (c0 dd : Int), t < k → met.testBit t = false → A f t ≠ -1 → Ex A n to j (met ||| 2 ^ t) t c0 (10 * dg + t) dd → le3 a1 b1 g1 (hops + (j + 1)) (pw + (A f t + c0)) dd) →
            ∃ a2 b2 g2, Run (d + (u + 1) + 2) 268 91 [vR 97, .inl c, .inl (f : Int), .inl (to : Int), .inl (met : Int), .inl (hops : Int), .inl pw, .inl dg, .inl (k : Int)] [] (ro3 H0 a1 b1 g1) = some (none, ro3 H0 a2 b2 g2) ∧ -1 ≤ a2 ∧ ((a2 = a ∧ b2 = b ∧ g2 = g) ∨ ∃ j cc dd, Ex A n to j met f cc dg dd ∧ a2 = hops + j ∧ b2 = pw + cc ∧ g2 = dd) ∧ (a ≠ -1 → le3 a2 b2 g2 a b g) ∧ (∀ (j t : Nat) (c0 dd : Int), t < n → met.testBit t = false → A f t ≠ -1 → Ex A n to j (met ||| 2 ^ t) t c0 (10 * dg + t) dd → le3 a2 b2 g2 (hops + (j + 1)) (pw + (A f t + c0)) dd) := by
          intro r
          induction r with
          | zero =>
            intro k a1 b1 g1 hk h1 h2 h3 h4
            have : k = n := by omega
            subst this
            refine ⟨a1, b1, g1, ?_, h1, h2, h3, h4⟩
            rw [q268_91, if_pos (by rw [ro3_o (by omega), hn]; omega)]
          | succ r ihr =>
            intro k a1 b1 g1 hk h1 h2 h3 h4
            have hb := bit_n (n := met) (k := k) (by omega) (by omega)
            have st0 : Run (d + (u + 1) + 2) 268 91 [vR 97, .inl c, .inl (f : Int), .inl (to : Int), .inl (met : Int), .inl (hops : Int), .inl pw, .inl dg, .inl ((k : Int) + 1)] [] (ro3 H0 a1 b1 g1) = Run (d + (u + 1) + 2) 268 91 [vR 97, .inl c, .inl (f : Int), .inl (to : Int), .inl (met : Int), .inl (hops : Int), .inl pw, .inl dg, .inl ((k + 1 : Nat) : Int)] [] (ro3 H0 a1 b1 g1) := rfl
            by_cases qm : met.testBit k = true
            · obtain ⟨a2, b2, g2, w1, w2⟩ := ihr (k + 1) a1 b1 g1 (by omega) h1 h2 h3 (fun j t c0 dd ht hm hA' e => by
                by_cases zt : t = k
                · subst zt; rw [qm] at hm; cases hm
                · exact h4 j t c0 dd (by omega) hm hA' e)
              refine ⟨a2, b2, g2, ?_, w2⟩
              rw [← w1, q268_91, if_neg (by rw [ro3_o (by omega), hn]; omega), m_has, cI_some, hb, bi_t qm, if_pos (by omega), wI_ok (by omega) (by omega)]
              rfl
            · have qm' : met.testBit k = false := by
                cases hq : met.testBit k
                · rfl
                · exact absurd hq qm
              have av : ro3 H0 a1 b1 g1 113 (64 * c.toNat + 8 * (f : Int).toNat + (k : Int).toNat) = am0 (A f k) := by
                rw [ro3_o (by omega), show ((f : Nat) : Int).toNat = f by omega, show ((k : Nat) : Int).toNat = k by omega]
                exact ha f k hf (by omega)
              have ab := hA f k
              have a0 := am0_1 (A f k) (by omega)
              by_cases qa : A f k = -1
              · obtain ⟨a2, b2, g2, w1, w2⟩ := ihr (k + 1) a1 b1 g1 (by omega) h1 h2 h3 (fun j t c0 dd ht hm hA' e => by
                  by_cases zt : t = k
                  · subst zt; exact absurd qa hA'
                  · exact h4 j t c0 dd (by omega) hm hA' e)
                refine ⟨a2, b2, g2, ?_, w2⟩
                rw [← w1, q268_91, if_neg (by rw [ro3_o (by omega), hn]; omega), m_has, cI_some, hb, bi_f qm, if_neg (by omega), m_aimOf _ _ hc0 hc1 (by omega) (by omega) (by omega) (by omega), cI_some, av, a0.1.mpr qa, if_pos (by omega), wI_ok (by omega) (by omega)]
                rfl
              · have av2 := a0.2 qa
                have m2 : met ||| 2 ^ k < 256 := by
                  have p8 : (2 : Nat) ^ k < 2 ^ 8 := Nat.pow_lt_pow_right (by omega) (by omega)
                  exact Nat.or_lt_two_pow (n := 8) hmet p8
                have bc2 := bc_add qm' n
                rw [if_pos (show k < n by omega)] at bc2
                obtain ⟨a2, b2, g2, v1, v2, v3, v4, v5⟩ := ih (met ||| 2 ^ k) k (hops + 1) (pw + A f k) (10 * dg + k) a1 b1 g1 (by omega) m2 (by omega) (by omega) (by omega) (by rw [e10]; omega) (by omega) (by omega) h1
                have hk1 : ¬ A f k ≤ 0 := by clear p7 e10 hd1 hb av av2 a0 bc2 v5 v4 v3 h4 h3 h2; omega
                have hk2 : -2147483648 ≤ pw + A f k ∧ pw + A f k ≤ 2147483647 := by clear p7 e10 hd1 hb av av2 a0 bc2 v5 v4 v3 h4 h3 h2; omega
                have st : Run (d + (u + 1) + 2) 268 91 [vR 97, .inl c, .inl (f : Int), .inl (to : Int), .inl (met : Int), .inl (hops : Int), .inl pw, .inl dg, .inl (k : Int)] [] (ro3 H0 a1 b1 g1) = Run (d + (u + 1) + 2) 268 91 [vR 97, .inl c, .inl (f : Int), .inl (to : Int), .inl (met : Int), .inl (hops : Int), .inl pw, .inl dg, .inl ((k + 1 : Nat) : Int)] [] (ro3 H0 a2 b2 g2) := by
                  have p8 : (2 : Nat) ^ k < 2 ^ 8 := Nat.pow_lt_pow_right (by omega) (by omega)
                  rw [q268_91, if_neg (by rw [ro3_o (by omega), hn]; omega), m_has, cI_some, hb, bi_f qm, if_neg (by omega), m_aimOf _ _ hc0 hc1 (by omega) (by omega) (by omega) (by omega), cI_some, av, av2, if_neg hk1, m_aimOf _ _ hc0 hc1 (by omega) (by omega) (by omega) (by omega), cI_some, av, av2, iShl_n k (by omega), iOr_n (by omega) (by omega), wI_ok (x := (hops : Int) + 1) (by omega) (by omega), wI_ok (x := pw + A f k) hk2.1 hk2.2, wI_ok (x := 10 * dg) (by omega) (by omega), wI_ok (x := 10 * dg + k) (by omega) (by omega), wI_ok (x := (k : Int) + 1) (by omega) (by omega)]
                  refine (congrArg (fun t => cV t _) v1).trans ?_
                  rw [cV_some]
                  rfl
                rw [st]
                refine ihr (k + 1) a2 b2 g2 (by omega) v2 ?_ (fun z => ?_) (fun j t c0 dd ht hm hA' e => ?_)
                · rcases v3 with ⟨x1, x2, x3⟩ | ⟨j, cc, dd, x1, x2, x3, x4⟩
                  · rw [x1, x2, x3]; exact h2
                  · refine Or.inr ⟨j + 1, A f k + cc, dd, ⟨qt, k, cc, by omega, qm', qa, rfl, x1⟩, by omega, by omega, x4⟩
                · by_cases z1 : a1 = -1
                  · have := h3 z
                    unfold le3 at this
                    omega
                  · exact le3_tr (v4 z1) (h3 z)
                · by_cases zt : t = k
                  · subst zt
                    have := v5 j c0 dd e
                    unfold le3 at this ⊢
                    omega
                  · have x := h4 j t c0 dd (by omega) hm hA' e
                    have : a1 ≠ -1 := x.1
                    exact le3_tr (v4 this) x
        obtain ⟨a2, b2, g2, w1, w2, w3, w4, w5⟩ := loop n 0 a b g (by omega) ha1 (Or.inl ⟨rfl, rfl, rfl⟩) (fun z => by unfold le3; omega) (fun j t c0 dd ht => by omega)
        refine ⟨a2, b2, g2, w1, w2, w3, w4, fun j cc dd e => ?_⟩
        cases j with
        | zero => exact absurd e.1 qt
        | succ j =>
          obtain ⟨-, t, c0, h1, h2, h3, h4, h5⟩ := e
          have := w5 j t c0 dd h1 h2 h3 h5
          rw [h4]
          unfold le3 at this ⊢
          omega
    · rw [if_neg q]
      refine ⟨a, b, g, rfl, ha1, Or.inl ⟨rfl, rfl, rfl⟩, fun _ => by unfold le3; omega, fun j cc dd e => ?_⟩
      have := exc _ _ _ _ _ _ e
      unfold le3
      omega
/-! route, sure, surest -/
/-- the best route: hops (-1: none), powder, row -/
def rtP (Ws : Nat → WF) (h : MH) (c : Int) (n s t : Nat) (a b g : Int) : Prop := (a = -1 ∧ noW (amN Ws h c) n s t (n - 1)) ∨ ∃ k : Nat, k ≤ n - 1 ∧ a = k ∧ Bst (amN Ws h c) n s t k b g
theorem rt_u {Ws : Nat → WF} {h : MH} {c : Int} {n s t : Nat} {a b g a2 b2 g2 : Int} (p : rtP Ws h c n s t a b g) (q : rtP Ws h c n s t a2 b2 g2) : a = a2 ∧ (a ≠ -1 → b = b2 ∧ g = g2) := by
  rcases p with ⟨p1, p2⟩ | ⟨k, k1, k2, k3⟩
  · rcases q with ⟨q1, q2⟩ | ⟨j, j1, j2, j3⟩
    · exact ⟨by omega, fun z => absurd p1 z⟩
    · exact absurd j3.1 (p2 j j1 _ _)
  · rcases q with ⟨q1, q2⟩ | ⟨j, j1, j2, j3⟩
    · exact absurd k3.1 (q2 k k1 _ _)
    · have e : k = j := by
        rcases Nat.lt_trichotomy k j with z | z | z
        · exact absurd k3.1 (j3.2.1 k z _ _)
        · exact z
        · exact absurd j3.1 (k3.2.1 j z _ _)
      subst e
      have x := k3.2.2 _ _ j3.1
      have y := j3.2.2 _ _ k3.1
      unfold lx at x y
      exact ⟨by omega, fun _ => by omega⟩
def ERt (h H : MH) : Prop := ∀ a j, ¬ (a = 97 ∧ (prF_ j ∨ j = 40 ∨ j = 41 ∨ j = 42)) → a ≠ 101 → a ≠ 113 → H a j = h a j
theorem ERt.V {h H : MH} (e : ERt h H) : Eqv h H := fun a j r => by
  apply e a j
  · rintro ⟨z, z2 | z2 | z2 | z2⟩
    · rw [pr_rel ⟨z, z2⟩] at r; cases r
    · subst z; subst z2; exact Bool.false_ne_true r
    · subst z; subst z2; exact Bool.false_ne_true r
    · subst z; subst z2; exact Bool.false_ne_true r
  · intro z; subst z; exact Bool.false_ne_true r
  · intro z; subst z; exact Bool.false_ne_true r
theorem m_layRoute {b : Int} {Ws : Nat → WF} {h : MH} (i : InvX b Ws h) (d : Nat) {c ac bc gc : Int} {s t n : Nat} (hc0 : 0 ≤ c) (hc1 : c < h 2 4) (hn : h 2 3 = n) (hs : s < n) (ht : t < n) (p : rtP Ws h c n s t ac bc gc) :
    ∃ H, Run (d + 37) 267 0 [vR 97, .inl c, .inl (s : Int), .inl (t : Int)] [] h = some (some (.inl (bi (¬ ac = -1))), H) ∧ Eqv h H ∧ H 97 40 = ac ∧ (ac ≠ -1 → H 97 41 = bc ∧ H 97 42 = gc) := by
  obtain ⟨l1, l2, l3, l4, l5, l6, l7⟩ := lg_n i.1.1
  obtain ⟨H1, r1, r2, r3, r4⟩ := m_layAims i.1 d hc0 hc1
  have p8 : (2 : Nat) ^ s < 2 ^ 8 := Nat.pow_lt_pow_right (by omega) (by omega)
  have b0 : bcN (2 ^ s) n = 1 := by
    have := bc_add (met := 0) (t := s) (Nat.zero_testBit s) n
    rw [Nat.zero_or, if_pos hs] at this
    rw [this]
    have z : ∀ m, bcN 0 m = 0 := by
      intro m
      induction m with
      | zero => rfl
      | succ m ih =>
        unfold bcN at ih ⊢
        unfold cnF
        rw [if_neg (by rw [Nat.zero_testBit]; exact Bool.false_ne_true)]
        exact ih
    rw [z]
  obtain ⟨a2, b2, g2, v1, v2, v3, v4, v5⟩ := m_goRoute (amN Ws h c) n t c (d + 34 - (n - 1)) H1 (by omega) ht hc0 (by omega) (fun f t => amH_b Ws h c f t) (fun f t hf ht => r3 f t (by omega) (by omega)) (by rw [r2.m (npr (by omega)), l1, hn]) (n - 1) (2 ^ s) s 0 0 0 (-1) 0 0 hs p8 (by omega) (by omega) (by omega) (by simp) (by omega) (by omega) (by omega)
  rw [show d + 34 - (n - 1) + (n - 1) + 2 = d + 36 by omega] at v1
  have eV : Eqv h (ro3 H1 a2 b2 g2) := fun a j rr => by
    have e1 := r2.V a j rr
    rw [ro3_o, e1]
    rintro ⟨z, z2 | z2 | z2⟩
    · subst z; subst z2; exact Bool.false_ne_true rr
    · subst z; subst z2; exact Bool.false_ne_true rr
    · subst z; subst z2; exact Bool.false_ne_true rr
  have w0 : Wk (amN Ws h c) n s 0 s 0 0 := ⟨rfl, rfl, rfl⟩
  have main : a2 = ac ∧ (ac ≠ -1 → b2 = bc ∧ g2 = gc) := by
    rcases p with ⟨p1, p2⟩ | ⟨k, k1, k2, k3⟩
    · rcases v3 with ⟨x1, -, -⟩ | ⟨j, cc, dd, e, e1, e2, e3⟩
      · exact ⟨by omega, fun z => absurd p1 z⟩
      · exfalso
        have len := Ex_len e
        have w := Ex_W e w0
        exact p2 (0 + j) (by omega) _ _ w
    · have le := v5 k bc gc (Ex_best hs ht k3)
      have na : a2 ≠ -1 := le.1
      rcases v3 with ⟨x1, -, -⟩ | ⟨j, cc, dd, e, e1, e2, e3⟩
      · exact absurd x1 na
      · have w := Ex_W e w0
        rw [Nat.zero_add, Int.zero_add] at w
        have hj : j = k := by
          rcases Nat.lt_trichotomy j k with z | z | z
          · exact absurd w (k3.2.1 j z _ _)
          · exact z
          · unfold le3 at le; omega
        subst hj
        have x := k3.2.2 _ _ w
        unfold lx at x
        unfold le3 at le
        exact ⟨by omega, fun _ => by omega⟩
  refine ⟨ro3 H1 a2 b2 g2, ?_, eV, by rw [ro3_h]; exact main.1, fun z => by rw [ro3_p, ro3_d]; exact main.2 z⟩
  rw [q267_0, r1, cV_some, iShl_n s (by omega)]
  refine (congrArg (fun t => cV t _) v1).trans ?_
  rw [cV_some, if_bi2, ro3_h, main.1]
theorem lv_rt {Ws : Nat → WF} {h H : MH} {c : Int} {n s t : Nat} (q : lvI (amN Ws h c) n s (n - 1) t (H 40) (H 41) (H 42)) : rtP Ws h c n s t (H 40 t) (H 41 t) (H 42 t) := q
theorem amN_e {Ws : Nat → WF} {h H : MH} (e : amH Ws H = amH Ws h) (c : Int) : amN Ws H c = amN Ws h c := by
  unfold amN
  rw [e]
theorem c_route {b : Int} {Ws : Nat → WF} {h : MH} (i : InvX b Ws h) (x y z w : Int) : PrX b b Ws 127 266 [vR 0, .inl x, .inl y, .inl z, .inl w] [vR 97, .inl x, .inl y, .inl z, .inl w] h := by
  obtain ⟨l1, l2, l3, l4, l5, l6, l7⟩ := lg_n i.1.1
  by_cases q : ((0 ≤ x ∧ x < h 2 4) ∧ (0 ≤ y ∧ y < h 2 3) ∧ (0 ≤ z ∧ z < h 2 3)) ∧ (0 ≤ w ∧ w ≤ 1)
  · obtain ⟨q0, qw⟩ := q
    obtain ⟨qx, qy, qz⟩ := id q0
    obtain ⟨n, hn⟩ := Int.eq_ofNat_of_zero_le l3
    obtain ⟨s, rfl⟩ := Int.eq_ofNat_of_zero_le qy.1
    obtain ⟨t, rfl⟩ := Int.eq_ofNat_of_zero_le qz.1
    obtain ⟨H1, r1, r2, r3, r4⟩ := e_trace i 33 (c := x) (s := s) (n := n) qx.1 qx.2 hn (by omega)
    have rt := r4 t (by omega)
    have e1 := (r2.dat (Ws := Ws)).1
    have e2 := (r2.dat (Ws := Ws)).2
    have v3 : Eqv H1 (up H1 97 0 0) := Eqv.up rfl
    have i3 := v3.X r3
    have e3 : amN Ws (up H1 97 0 0) x = amN Ws h x := amN_e (by rw [v3.am, e2]) x
    have p3 : rtP Ws (up H1 97 0 0) x n s t (H1 40 t) (H1 41 t) (H1 42 t) := by
      unfold rtP
      rw [e3]
      exact rt
    have lg1 : up H1 97 0 0 2 3 = n := by rw [up_a (by omega), e1, hn]
    have lg2 : up H1 97 0 0 2 4 = h 2 4 := by rw [up_a (by omega), e1]
    obtain ⟨H2, s1, s2, s3, s4⟩ := m_layRoute i3 2 (c := x) qx.1 (by rw [lg2]; exact qx.2) lg1 (by omega) (by omega) p3
    obtain ⟨g1, g2, -⟩ := lg_n i3.1.1
    have eV := v3.tr s2
    refine ⟨if H1 40 t = -1 then -1 else if w = 1 then H1 41 t else H1 42 t, H1, H2, ?_, ?_, eV.X r3⟩
    · rw [q127_0, e_isPassage, cI_some, bi_t q0, if_neg (by omega), if_neg (by omega), if_pos qw.2]
      refine (congrArg (fun t => cV t _) r1).trans ?_
      rw [cV_some, if_pos (by omega), show ((t : Nat) : Int).toNat = t by omega]
      by_cases z1 : H1 40 t = -1
      · rw [if_neg (fun y => y z1), if_pos z1]
      · rw [if_pos z1, if_neg z1]
        by_cases z2 : w = 1
        · rw [if_neg (fun y => y z2), if_pos z2, if_pos (by omega)]
        · rw [if_pos z2, if_neg z2, if_pos (by omega)]
    · rw [q266_0, m_isCarrier, cI_some, g2, lg2, bi_t qx, if_neg (by omega), m_isFort, cI_some, g1, lg1, bi_t (c := 0 ≤ (s : Int) ∧ (s : Int) < n) (by omega), if_neg (by omega), m_isFort, cI_some, g1, lg1, bi_t (c := 0 ≤ (t : Int) ∧ (t : Int) < n) (by omega), if_neg (by omega), m_isIn, cI_some, bi_t qw, if_neg (by omega)]
      refine (congrArg (fun t => cI t _) s1).trans ?_
      rw [cI_some]
      by_cases z1 : H1 40 t = -1
      · rw [bi_f (fun y => y z1), if_neg (by omega), if_pos z1]
      · rw [bi_t z1, if_pos (by omega), if_neg z1, (s4 z1).1, (s4 z1).2]
        by_cases z2 : w = 1
        · rw [if_pos z2, if_pos (by omega)]
        · rw [if_neg z2, if_neg (by omega)]
  · refine Pr_X i (Pr_no i.1.1 (v := -1) ?_ ?_)
    · rw [q127_0, e_isPassage, cI_some]
      by_cases q1 : (0 ≤ x ∧ x < h 2 4) ∧ (0 ≤ y ∧ y < h 2 3) ∧ (0 ≤ z ∧ z < h 2 3)
      · rw [bi_t q1, if_neg (by omega)]
        by_cases q2 : w < 0
        · rw [if_pos q2]
        · rw [if_neg q2, if_neg (by omega)]
      · rw [bi_f q1, if_pos rfl]
    · rw [q266_0]
      simp only [m_isCarrier, m_isFort, m_isIn, cI_some, bi_0, bi_ne, bi_1, Classical.not_not, up_s, up_a, up_i, ne_eq, Nat.reduceEqDiff, not_false_eq_true, l1, l2]
      by_cases q1 : 0 ≤ x ∧ x < h 2 4
      · rw [if_neg (fun z => z q1)]
        by_cases q2 : 0 ≤ y ∧ y < h 2 3
        · rw [if_neg (fun z => z q2)]
          by_cases q3 : 0 ≤ z ∧ z < h 2 3
          · rw [if_neg (fun z => z q3), if_pos (fun y => q ⟨⟨q1, q2, q3⟩, y⟩)]
          · rw [if_pos q3]
        · rw [if_pos q2]
      · rw [if_pos q1]
/-- parts that come right over hops -/
def prR (nv : Int) : Nat → Int
  | 0 => 1000000000
  | k + 1 => wL ((wL (prR nv k * wI (nv + 1))).tdiv 10)
theorem sure_pair {b : Int} {Ws : Nat → WF} {h : MH} (i : InvX b Ws h) {c : Int} {s t n : Nat} (hc0 : 0 ≤ c) (hc1 : c < h 2 4) (hn : h 2 3 = n) (hs : s < n) (ht : t < n) :
    ∃ v H, Run 39 136 0 [vR 0, .inl c, .inl (s : Int), .inl (t : Int), vU, vU, vU] [] h = some (some (.inl v), H) ∧ ETr h H ∧ InvX b Ws H ∧ ∀ G, InvX b Ws G → amH Ws G = amH Ws h → G 2 3 = n → G 2 4 = h 2 4 → G 18 = h 18 → ∃ G2, Run 39 270 0 [vR 97, .inl c, .inl (s : Int), .inl (t : Int), vU, vU, vU] [] G = some (some (.inl v), G2) ∧ Eqv G G2 := by
  obtain ⟨l1, l2, l3, l4, l5, l6, l7⟩ := lg_n i.1.1
  obtain ⟨H1, r1, r2, r3, r4⟩ := e_trace i 32 (c := c) (s := s) (n := n) hc0 hc1 hn hs
  have rt := r4 t ht
  have e1 := (r2.dat (Ws := Ws)).1
  have w2 : H1 18 = h 18 := r2 _ (by omega) (by omega) (by omega) (by omega) (by omega) (by omega) (by omega)
  by_cases z1 : H1 40 t = -1
  · refine ⟨-1, H1, ?_, r2, r3, fun G iG eG g1 g2 g3 => ?_⟩
    · rw [q136_0]
      refine (congrArg (fun t => cV t _) r1).trans ?_
      rw [cV_some, if_pos (by omega), show ((t : Nat) : Int).toNat = t by omega, if_neg (fun y => y z1)]
    · have p3 : rtP Ws G c n s t (H1 40 t) (H1 41 t) (H1 42 t) := by
        unfold rtP
        rw [amN_e eG]
        exact rt
      obtain ⟨G2, s1, s2, s3, s4⟩ := m_layRoute iG 1 (c := c) hc0 (by rw [g2]; exact hc1) g1 hs ht p3
      refine ⟨G2, ?_, s2⟩
      rw [q270_0]
      refine (congrArg (fun t => cI t _) s1).trans ?_
      rw [cI_some, bi_f (fun y => y z1), if_neg (by omega)]
  · obtain ⟨k, hk1, hk2⟩ : ∃ k : Nat, H1 40 t = k ∧ k ≤ 8 := by
      rcases rt with ⟨z, -⟩ | ⟨k, k1, k2, -⟩
      · exact absurd z z1
      · exact ⟨k, k2, by omega⟩
    have n5 : c < 5 := by omega
    refine ⟨wI (prR (h 18 (3 * c + 1).toNat) k), H1, ?_, r2, r3, fun G iG eG g1 g2 g3 => ?_⟩
    · rw [q136_0]
      refine (congrArg (fun t => cV t _) r1).trans ?_
      rw [cV_some, if_pos (by omega), show ((t : Nat) : Int).toNat = t by omega, if_pos z1]
      have loop : ∀ (r j : Nat), j + r = k → Run 39 136 36 [vR 0, .inl c, .inl (s : Int), .inl (t : Int), .inr (.inl (prR (h 18 (3 * c + 1).toNat) j)), vU, .inl (j : Int)] [] H1 = some (some (.inl (wI (prR (h 18 (3 * c + 1).toNat) k))), H1) := by
        intro r
        induction r with
        | zero =>
          intro j hj
          rw [q136_36 (hz1 := rfl) (hz4 := rfl), if_pos (by omega), show ((t : Nat) : Int).toNat = t by omega, if_pos (by omega), show j = k by omega]
        | succ r ih =>
          intro j hj
          rw [q136_36 (hz1 := rfl) (hz4 := rfl), if_pos (by omega), show ((t : Nat) : Int).toNat = t by omega, if_neg (by omega), e_nerve _ _ _ hc0 n5, cI_some, w2, wI_ok (x := (j : Int) + 1) (by omega) (by omega), ← ih (j + 1) (by omega)]
          rfl
      exact loop k 0 (by omega)
    · have p3 : rtP Ws G c n s t (H1 40 t) (H1 41 t) (H1 42 t) := by
        unfold rtP
        rw [amN_e eG]
        exact rt
      obtain ⟨G2, s1, s2, s3, s4⟩ := m_layRoute iG 1 (c := c) hc0 (by rw [g2]; exact hc1) g1 hs ht p3
      have gc : G2 106 (3 * c + 1).toNat = h 18 (3 * c + 1).toNat := by
        rw [s2 106 _ rfl, lg_carrier iG.1.1 (3 * c + 1) (by omega) (by omega), g3]
      refine ⟨G2, ?_, s2⟩
      rw [q270_0]
      refine (congrArg (fun t => cI t _) s1).trans ?_
      rw [cI_some, bi_t z1, if_pos (by omega)]
      have loop : ∀ (r j : Nat), j + r = k → Run 39 270 20 [vR 97, .inl c, .inl (s : Int), .inl (t : Int), .inr (.inl (prR (h 18 (3 * c + 1).toNat) j)), vU, .inl (j : Int)] [] G2 = some (some (.inl (wI (prR (h 18 (3 * c + 1).toNat) k))), G2) := by
        intro r
        induction r with
        | zero =>
          intro j hj
          rw [q270_20 (hz1 := rfl) (hz2 := rfl) (hz4 := rfl), if_pos (by omega), show j = k by omega]
        | succ r ih =>
          intro j hj
          rw [q270_20 (hz1 := rfl) (hz2 := rfl) (hz4 := rfl), if_neg (by omega), m_told _ _ _ _ hc0 n5 (by omega) (by omega), cI_some, gc, wI_ok (x := (j : Int) + 1) (by omega) (by omega), ← ih (j + 1) (by omega)]
          rfl
      exact loop k 0 (by omega)
theorem c_sure {b : Int} {Ws : Nat → WF} {h : MH} (i : InvX b Ws h) (x y z : Int) : PrX b b Ws 135 269 [vR 0, .inl x, .inl y, .inl z] [vR 97, .inl x, .inl y, .inl z] h := by
  obtain ⟨l1, l2, l3, l4, l5, l6, l7⟩ := lg_n i.1.1
  by_cases q0 : (0 ≤ x ∧ x < h 2 4) ∧ (0 ≤ y ∧ y < h 2 3) ∧ (0 ≤ z ∧ z < h 2 3)
  · obtain ⟨qx, qy, qz⟩ := id q0
    obtain ⟨n, hn⟩ := Int.eq_ofNat_of_zero_le l3
    obtain ⟨s, rfl⟩ := Int.eq_ofNat_of_zero_le qy.1
    obtain ⟨t, rfl⟩ := Int.eq_ofNat_of_zero_le qz.1
    obtain ⟨v, H1, r1, r2, r3, r4⟩ := sure_pair i (c := x) (s := s) (t := t) (n := n) qx.1 qx.2 hn (by omega) (by omega)
    have e1 := (r2.dat (Ws := Ws)).1
    have e2 := (r2.dat (Ws := Ws)).2
    have v3 : Eqv H1 (up H1 97 0 0) := Eqv.up rfl
    have i3 := v3.X r3
    have lg1 : up H1 97 0 0 2 3 = n := by rw [up_a (by omega), e1, hn]
    have lg2 : up H1 97 0 0 2 4 = h 2 4 := by rw [up_a (by omega), e1]
    obtain ⟨G2, s1, s2⟩ := r4 (up H1 97 0 0) i3 (by rw [v3.am, e2]) lg1 lg2 (by rw [up_ne (by omega), r2 _ (by omega) (by omega) (by omega) (by omega) (by omega) (by omega) (by omega)])
    obtain ⟨g1, g2, -⟩ := lg_n i3.1.1
    refine ⟨v, H1, G2, ?_, ?_, (v3.tr s2).X r3⟩
    · rw [q135_0, e_isPassage, cI_some, bi_t q0, if_neg (by omega)]
      refine (congrArg (fun t => cI t _) r1).trans ?_
      rw [cI_some]
    · rw [q269_0, m_isCarrier, cI_some, g2, lg2, bi_t qx, if_neg (by omega), m_isFort, cI_some, g1, lg1, bi_t (c := 0 ≤ (s : Int) ∧ (s : Int) < n) (by omega), if_neg (by omega), m_isFort, cI_some, g1, lg1, bi_t (c := 0 ≤ (t : Int) ∧ (t : Int) < n) (by omega), if_neg (by omega)]
      refine (congrArg (fun t => cI t _) s1).trans ?_
      rw [cI_some]
  · refine Pr_X i (Pr_no i.1.1 (v := -1) ?_ ?_)
    · rw [q135_0, e_isPassage, cI_some, bi_f q0, if_pos rfl]
    · rw [q269_0]
      simp only [m_isCarrier, m_isFort, cI_some, bi_0, bi_ne, bi_1, Classical.not_not, up_s, up_a, up_i, ne_eq, Nat.reduceEqDiff, not_false_eq_true, l1, l2]
      by_cases q1 : 0 ≤ x ∧ x < h 2 4
      · rw [if_neg (fun z => z q1)]
        by_cases q2 : 0 ≤ y ∧ y < h 2 3
        · rw [if_neg (fun z => z q2), if_pos (fun y => q0 ⟨q1, q2, y⟩)]
        · rw [if_pos q2]
      · rw [if_pos q1]
theorem c_surest {b : Int} {Ws : Nat → WF} {h : MH} (i : InvX b Ws h) (y z : Int) : PrX b b Ws 137 271 [vR 0, .inl y, .inl z, vU, vU, vU, vU] [vR 97, .inl y, .inl z, vU, vU, vU, vU] h := by
  obtain ⟨l1, l2, l3, l4, l5, l6, l7⟩ := lg_n i.1.1
  by_cases q0 : (0 ≤ y ∧ y < h 2 3) ∧ (0 ≤ z ∧ z < h 2 3)
  · obtain ⟨qy, qz⟩ := id q0
    obtain ⟨n, hn⟩ := Int.eq_ofNat_of_zero_le l3
    obtain ⟨s, rfl⟩ := Int.eq_ofNat_of_zero_le qy.1
    obtain ⟨t, rfl⟩ := Int.eq_ofNat_of_zero_le qz.1
    have key : ∀ (r k : Nat) (H : MH) (z5 : MV) (best most : Int), cat z5 = 1 → (k : Int) + r = h 2 4 → ETr h H → InvX b Ws H → ∃ v H2, Run 40 137 32 [vR 0, .inl (s : Int), .inl (t : Int), .inl best, .inl most, .inl (k : Int), z5] [] H = some (some (.inl v), H2) ∧ ETr h H2 ∧ InvX b Ws H2 ∧ ∀ (G : MH) (y5 : MV), cat y5 = 1 → InvX b Ws G → amH Ws G = amH Ws h → G 2 3 = n → G 2 4 = h 2 4 → G 18 = h 18 → ∃ G2, Run 40 271 31 [vR 97, .inl (s : Int), .inl (t : Int), .inl best, .inl most, .inl (k : Int), y5] [] G = some (some (.inl v), G2) ∧ Eqv G G2 := by
      intro r
      induction r with
      | zero =>
        intro k H z5 best most c5 hk eH iH
        refine ⟨best, H, ?_, eH, iH, fun G y5 d5 iG eG g1 g2 g3 => ⟨G, ?_, Eqv.rf G⟩⟩
        · rw [q137_32 (hz5 := c5), if_pos (by rw [(eH.dat (Ws := Ws)).1]; omega)]
        · rw [q271_31 (hz5 := d5), if_pos (by rw [(lg_n iG.1.1).2.1, g2]; omega)]
      | succ r ih =>
        intro k H z5 best most c5 hk eH iH
        have e1 := (eH.dat (Ws := Ws)).1
        have e2 := (eH.dat (Ws := Ws)).2
        have w2 : H 18 = h 18 := eH _ (by omega) (by omega) (by omega) (by omega) (by omega) (by omega) (by omega)
        obtain ⟨v, H1, r1, r2, r3, r4⟩ := sure_pair iH (c := (k : Int)) (s := s) (t := t) (n := n) (by omega) (by rw [e1]; omega) (by rw [e1, hn]) (by omega) (by omega)
        have eH1 : ETr h H1 := fun a a1 a2 a3 a4 a5 a6 a7 => by rw [r2 a a1 a2 a3 a4 a5 a6 a7, eH a a1 a2 a3 a4 a5 a6 a7]
        have nx : ∀ (best2 most2 : Int), (best2 = if v ≤ most then best else (k : Int)) → (most2 = if v ≤ most then most else v) → ∃ v2 H2, Run 40 137 32 [vR 0, .inl (s : Int), .inl (t : Int), .inl best, .inl most, .inl (k : Int), z5] [] H = some (some (.inl v2), H2) ∧ ETr h H2 ∧ InvX b Ws H2 ∧ ∀ (G : MH) (y5 : MV), cat y5 = 1 → InvX b Ws G → amH Ws G = amH Ws h → G 2 3 = n → G 2 4 = h 2 4 → G 18 = h 18 → ∃ G2, Run 40 271 31 [vR 97, .inl (s : Int), .inl (t : Int), .inl best, .inl most, .inl (k : Int), y5] [] G = some (some (.inl v2), G2) ∧ Eqv G G2 := by
          intro best2 most2 hb2 hm2
          obtain ⟨v2, H2, u1, u2, u3, u4⟩ := ih (k + 1) H1 (.inl v) best2 most2 rfl (by omega) eH1 r3
          refine ⟨v2, H2, ?_, u2, u3, fun G y5 d5 iG eG g1 g2 g3 => ?_⟩
          · rw [← u1, q137_32 (hz5 := c5), if_neg (by rw [e1]; omega)]
            refine (congrArg (fun t => cI t _) r1).trans ?_
            rw [cI_some, wI_ok (by omega) (by omega), hb2, hm2]
            by_cases zv : v ≤ most
            · rw [if_pos zv, if_pos zv, if_pos zv]; rfl
            · rw [if_neg zv, if_neg zv, if_neg zv]; rfl
          · obtain ⟨G1, s1, s2⟩ := r4 G iG (by rw [eG, e2]) g1 (by rw [g2, e1]) (by rw [g3, w2])
            have i1 := s2.X iG
            obtain ⟨t1, t2, t3, t4, t5, t6, t7⟩ := s2.dat
            obtain ⟨G2, s3, s4⟩ := u4 G1 (.inl v) rfl i1 (by rw [s2.am, eG]) (by rw [t4, g1]) (by rw [t5, g2]) (by rw [t3, g3])
            refine ⟨G2, ?_, s2.tr s4⟩
            rw [← s3, q271_31 (hz5 := d5), if_neg (by rw [(lg_n iG.1.1).2.1, g2]; omega)]
            refine (congrArg (fun t => cI t _) s1).trans ?_
            rw [cI_some, wI_ok (by omega) (by omega), hb2, hm2]
            by_cases zv : v ≤ most
            · rw [if_neg (by omega), if_pos zv, if_pos zv]; rfl
            · rw [if_pos (by omega), if_neg zv, if_neg zv]; rfl
        exact nx _ _ rfl rfl
    obtain ⟨v, H1, r1, r2, r3, r4⟩ := key (h 2 4).toNat 0 h vU (-1) (-1) rfl (by omega) (fun _ _ _ _ _ _ _ _ => rfl) i
    have e1 := (r2.dat (Ws := Ws)).1
    have e2 := (r2.dat (Ws := Ws)).2
    have v3 : Eqv H1 (up H1 97 0 0) := Eqv.up rfl
    have i3 := v3.X r3
    have lg1 : up H1 97 0 0 2 3 = n := by rw [up_a (by omega), e1, hn]
    have lg2 : up H1 97 0 0 2 4 = h 2 4 := by rw [up_a (by omega), e1]
    obtain ⟨G2, s1, s2⟩ := r4 (up H1 97 0 0) vU rfl i3 (by rw [v3.am, e2]) lg1 lg2 (by rw [up_ne (by omega), r2 _ (by omega) (by omega) (by omega) (by omega) (by omega) (by omega) (by omega)])
    obtain ⟨g1, g2, -⟩ := lg_n i3.1.1
    refine ⟨v, H1, G2, ?_, ?_, (v3.tr s2).X r3⟩
    · rw [q137_0, e_hasFort, cI_some, bi_t qy, if_neg (by omega), e_hasFort, cI_some, bi_t qz, if_pos (by omega)]
      exact r1
    · rw [q271_0, m_isFort, cI_some, g1, lg1, bi_t (c := 0 ≤ (s : Int) ∧ (s : Int) < n) (by omega), if_neg (by omega), m_isFort, cI_some, g1, lg1, bi_t (c := 0 ≤ (t : Int) ∧ (t : Int) < n) (by omega), if_pos (by omega)]
      exact s1
  · refine Pr_X i (Pr_no i.1.1 (v := -1) ?_ ?_)
    · rw [q137_0, e_hasFort, cI_some]
      by_cases q1 : 0 ≤ y ∧ y < h 2 3
      · rw [bi_t q1, if_neg (by omega), e_hasFort, cI_some, bi_f (fun z => q0 ⟨q1, z⟩), if_neg (by omega)]
      · rw [bi_f q1, if_pos rfl]
    · rw [q271_0, m_isFort, cI_some, up_i (by omega), l1]
      by_cases q1 : 0 ≤ y ∧ y < h 2 3
      · rw [bi_t q1, if_neg (by omega), m_isFort, cI_some, up_i (by omega), l1, bi_f (fun z => q0 ⟨q1, z⟩), if_neg (by omega)]
      · rw [bi_f q1, if_pos rfl]
