/-! run: a plan tried -/
theorem Eqv.S {h H : MH} (e : Eqv h H) : SF h H := fun a j r => e a j (relF_B r)
theorem Eqv_tr {h H H2 : MH} (e : Eqv h H) (fr : ∀ a, a ≠ 23 → a ≠ 30 → a ≠ 93 → a ≠ 94 → H2 a = H a) : Eqv h H2 := fun a j r => by
  rw [fr a (fun z => by subst z; exact Bool.false_ne_true r) (fun z => by subst z; exact Bool.false_ne_true r) (fun z => by subst z; exact Bool.false_ne_true r) (fun z => by subst z; exact Bool.false_ne_true r)]
  exact e a j r
theorem Eqv_tm {h H H2 : MH} (e : Eqv h H) (fr : ∀ a j, ¬ (a = 97 ∧ prF_ j) → a ≠ 101 → a ≠ 111 → H2 a j = H a j) : Eqv h H2 := fun a j r => by
  rw [fr a j (fun z => by rw [pr_rel z] at r; cases r) (fun z => by subst z; exact Bool.false_ne_true r) (fun z => by subst z; exact Bool.false_ne_true r)]
  exact e a j r
theorem tr_step {Ws : Nat → WF} {h : MH} (i : InvF Ws h) {k j : Nat} (x1 : Int) (hk : k < 4) (hj : j < 16) (hp : plOK (plS h k j)) (ep : ∀ w : Nat, w < 4 → h 108 (64 * k + 4 * j + w) = plS h k j w) :
    ∀ (r t : Nat) (b : Int) (c v : Nat → Int), (t : Int) + r = tmF (plS h k j) → b + r ≤ 800000 → stR c v → stOK (h 2 3) (h 2 4) b c → (1 ≤ r → acP (h 2 3) (h 2 4) c (plS h k j)) → (plS h k j 0 = 1 → c 4 + r ≤ 9999) →
    ∃ c2 v2, (∀ H, Eqv h H → H 93 = c → ∃ H2, Run 39 117 66 [vR 0, vR 13, .inl (k : Int), .inl 0, .inl (j : Int), .inl (tmF (plS h k j)), .inl (t : Int)] [] H = Run 39 117 3 [vR 0, vR 13, .inl (k : Int), .inl 0, .inl ((j : Int) + 1), .inl (tmF (plS h k j)), .inl (tmF (plS h k j))] [] H2 ∧ Eqv h H2 ∧ H2 93 = c2 ∧ H2 111 = H 111) ∧
      (∀ H, Eqv h H → H 111 = v → ∃ H2, Run 40 255 89 [vR 97, .inl (k : Int), .inl x1, .inl (j : Int), .inl (64 * (k : Int) + 4 * (j : Int)), .inl (t : Int)] [] H = Run 40 255 47 [vR 97, .inl (k : Int), .inl x1, .inl ((j : Int) + 1), .inl (64 * (k : Int) + 4 * (j : Int)), .inl (tmF (plS h k j))] [] H2 ∧ Eqv h H2 ∧ H2 111 = v2) ∧ stR c2 v2 ∧ stOK (h 2 3) (h 2 4) (b + r) c2 := by
  intro r
  induction r with
  | zero =>
    intro t b c v ht hb rr o _ _
    have et : (t : Int) = tmF (plS h k j) := by omega
    refine ⟨c, v, fun H e ec => ⟨H, ?_, e, ec, rfl⟩, fun H e ev => ⟨H, ?_, e, ev⟩, rr, ?_⟩
    · rw [q117_66, if_pos (by omega), wI_ok (by omega) (by omega), et]
    · rw [q255_89, m_times _ e.S hk hj ep, cI_some, if_pos (by omega), wI_ok (by omega) (by omega), et]
    · rw [show b + ((0 : Nat) : Int) = b by omega]; exact o
  | succ r ih =>
    intro t b c v ht hb rr o q q4
    have tb : tmF (plS h k j) ≤ 9 := by
      unfold tmF
      have := hp.2.1
      split <;> omega
    obtain ⟨s1, s2, -⟩ := sp_SS (Ws := Ws) i.1 (sh := c) rr o hp (q (by omega))
    obtain ⟨c2, v2, u1, u2, u3, u4⟩ := ih (t + 1) (b + 1) _ _ (by omega) (by omega) s1 s2 (fun hr => by
      have z1 : plS h k j 0 = 1 := by
        by_cases z : plS h k j 0 = 1
        · exact z
        · exfalso; unfold tmF at ht; rw [if_neg z] at ht; omega
      refine ⟨fun z => by omega, fun _ => ?_, fun z => by omega⟩
      rw [spC_4 z1]
      have := q4 z1
      omega) (fun z1 => by
      rw [spC_4 z1]
      have := q4 z1
      omega)
    refine ⟨c2, v2, fun H e ec => ?_, fun H e ev => ?_, u3, ?_⟩
    · obtain ⟨H2, g1, g2, g3, g4⟩ := e_stepOnceT i e.S 32 ec o (by omega) hk hj hp (q (by omega))
      obtain ⟨H3, w5, w6, w7, w8⟩ := u1 H2 (Eqv_tr e g2) g3
      refine ⟨H3, ?_, w6, w7, by rw [w8, g2 _ (by omega) (by omega) (by omega) (by omega)]⟩
      rw [← w5, q117_66, if_neg (by omega), if_pos rfl, g1, cV_some, wI_ok (by omega) (by omega), show (t : Int) + 1 = ((t + 1 : Nat) : Int) by omega]
    · obtain ⟨H2, g1, g2, g3⟩ := m_stepsT i e.S 2 ev rr o (by omega) (row := 64 * (k : Int) + 4 * (j : Int)) (p := plS h k j) (by omega) (by omega) (fun w hw => by
        rw [e.S _ _ rfl, show (64 * (k : Int) + 4 * (j : Int)).toNat = 64 * k + 4 * j by omega]
        exact ep w hw) hp (q (by omega))
      obtain ⟨H3, w5, w6, w7⟩ := u2 H2 (Eqv_tm e g2) g3
      refine ⟨H3, ?_, w6, w7⟩
      rw [← w5, q255_89, m_times _ e.S hk hj ep, cI_some, if_neg (by omega), g1, cV_some, wI_ok (by omega) (by omega), show (t : Int) + 1 = ((t + 1 : Nat) : Int) by omega]
    · rw [show b + ((r + 1 : Nat) : Int) = b + 1 + (r : Int) by omega]; exact u4
theorem c_run {b : Int} {Ws : Nat → WF} {h : MH} (i : InvX b Ws h) (hb : b ≤ 700000) (x y : Int) : PrX b b Ws 116 255 [vR 0, .inl x, .inl y, vU] [vR 97, .inl x, .inl y, vU, vU, vU] h := by
  obtain ⟨l1, l2, l3, l4, l5, l6, l7⟩ := lg_n i.1.1
  obtain ⟨-, -, -, -, -, -, ⟨⟨pn1, pn2, pn3⟩, -⟩, -⟩ := (Inv0_iff b h).mp i.1.1
  have o := nowOK i.1.1
  have rr := nowR i.1.1
  obtain ⟨-, -, s1, s2, s3, s4, s5, s6⟩ := nowR i.1.1
  have s8 : 0 ≤ h 110 36 ∧ h 110 36 ≤ 60 := by
    have := o.1.2.2.2.2.2
    rw [s6]; split <;> omega
  by_cases q : (0 < h 2 3 ∧ (0 ≤ x ∧ x < h 7 1)) ∧ (0 ≤ y ∧ y ≤ 1)
  · obtain ⟨⟨qf, qx⟩, qy⟩ := q
    obtain ⟨k, rfl⟩ := Int.eq_ofNat_of_zero_le qx.1
    obtain ⟨⟨hk, ps1, ps2⟩, ps3⟩ := pl_n i.1.1 qx.2
    have key : ∀ (r j : Nat) (c v : Nat → Int) (b2 : Int), (j : Int) + r = h 31 k → b2 + 9 * r ≤ b + 144 → stR c v → stOK (h 2 3) (h 2 4) b2 c →
        ∃ a c2 v2, (∀ (H : MH) (z3 z4 : MV), cat z3 = 1 → cat z4 = 1 → Eqv h H → H 93 = c → ∃ H2, Run 39 117 3 [vR 0, vR 13, .inl (k : Int), .inl 0, .inl (j : Int), z3, z4] [] H = some (some (.inl a), H2) ∧ Eqv h H2 ∧ H2 93 = c2 ∧ H2 111 = H 111) ∧ (∀ (H : MH) (z3 z4 : MV), cat z3 = 1 → cat z4 = 1 → Eqv h H → H 111 = v → ∃ H2 y3 y4, cat y3 = 1 ∧ cat y4 = 1 ∧ Run 40 255 47 [vR 97, .inl (k : Int), .inl y, .inl (j : Int), z3, z4] [] H = Run 40 255 122 [vR 97, .inl (k : Int), .inl y, .inl a, y3, y4] [] H2 ∧ Eqv h H2 ∧ H2 111 = v2) ∧ c2 0 = v2 31 := by
      intro r
      induction r with
      | zero =>
        intro j c v b2 hj hb2 r0 o0
        refine ⟨h 31 k, c, v, fun H z3 z4 c3 c4 e ec => ⟨H, ?_, e, ec, rfl⟩, fun H z3 z4 c3 c4 e ev => ⟨H, z3, z4, c3, c4, ?_, e, ev⟩, r0.2.2.1.symm⟩
        · rw [q117_3 (hz3 := c3) (hz4 := c4), if_pos (by omega), show ((k : Nat) : Int).toNat = k by omega, e.S _ _ rfl, if_pos (by omega), if_pos (by omega)]
        · rw [q255_47 (hz3 := c3) (hz4 := c4), if_pos (by omega), show ((k : Nat) : Int).toNat = k by omega, e.S _ _ rfl, ps1, if_pos (by omega), show (j : Int) = h 31 k by omega]
      | succ r ih =>
        intro j c v b2 hj hb2 r0 o0
        obtain ⟨ep, hp⟩ := ps3 j (by omega)
        have canC : ∀ H, Eqv h H → H 93 = c → Run 38 118 0 [vR 0, vR 13, .inl (k : Int), .inl (j : Int), vU, vU] [] H = some (some (.inl (bi (stP (h 2 3) (h 2 4) c (plS h k j)))), H) := fun H e ec => e_canStepT i.1.F e.S 36 ec o0 hk (by omega) hp
        have canM : ∀ H, Eqv h H → H 111 = v → Run 39 257 0 [vR 97, vR 111, .inl (64 * (k : Int) + 4 * (j : Int)), vU, vU] [] H = some (some (.inl (bi (stP (h 2 3) (h 2 4) c (plS h k j)))), H) := fun H e ev => m_canStepT i.1.F e.S 36 ev r0 o0 qf (row := 64 * (k : Int) + 4 * (j : Int)) (p := plS h k j) (by omega) (by omega) (fun w hw => by
          rw [e.S _ _ rfl, show (64 * (k : Int) + 4 * (j : Int)).toNat = 64 * k + 4 * j by omega]
          exact ep w hw) hp
        by_cases qc : stP (h 2 3) (h 2 4) c (plS h k j)
        · have t0 : 1 ≤ tmF (plS h k j) ∧ tmF (plS h k j) ≤ 9 := by
            unfold tmF
            have := hp.2.1
            rcases qc with z | z | z | z <;> split <;> omega
          obtain ⟨c1, v1, u1, u2, u3, u4⟩ := tr_step i.1.F y hk (by omega) hp ep (tmF (plS h k j)).toNat 0 b2 c v (by omega) (by omega) r0 o0 (fun _ => st_ac qc) (fun z1 => by
            have : tmF (plS h k j) = plS h k j 1 := by unfold tmF; rw [if_pos z1]
            rcases qc with z | z | z | z
            · omega
            · omega
            · omega
            · omega)
          obtain ⟨a, c2, v2, w1, w2, w3⟩ := ih (j + 1) c1 v1 (b2 + ((tmF (plS h k j)).toNat : Int)) (by omega) (by omega) u3 u4
          refine ⟨a, c2, v2, fun H z3 z4 c3 c4 e ec => ?_, fun H z3 z4 c3 c4 e ev => ?_, w3⟩
          · obtain ⟨H1, t1, t2, t3, t3'⟩ := u1 H e ec
            obtain ⟨H2, t4, t5, t6, t6'⟩ := w1 H1 (.inl (tmF (plS h k j))) (.inl (tmF (plS h k j))) rfl rfl t2 t3
            refine ⟨H2, ?_, t5, t6, by rw [t6', t3']⟩
            have a0 := e_part 38 e.S hk (i := j) (by omega) (w := 0) (by omega)
            have a1 := e_part 38 e.S hk (i := j) (by omega) (w := 1) (by omega)
            rw [q117_3 (hz3 := c3) (hz4 := c4), if_pos (by omega), show ((k : Nat) : Int).toNat = k by omega, e.S _ _ rfl, if_neg (by omega), canC H e ec, cI_some, bi_t qc, if_pos (by omega)]
            refine (congrArg (fun t => cI t _) a0).trans ?_
            rw [cI_some]
            have fin : Run 39 117 66 [vR 0, vR 13, .inl (k : Int), .inl 0, .inl (j : Int), .inl (tmF (plS h k j)), .inl 0] [] H = some (some (.inl a), H2) := by
              rw [← t4, show ((j + 1 : Nat) : Int) = (j : Int) + 1 by omega]
              exact t1
            by_cases z1 : plS h k j 0 = 1
            · rw [if_neg (fun y => y z1)]
              refine (congrArg (fun t => cI t _) a1).trans ?_
              rw [cI_some]
              have : tmF (plS h k j) = plS h k j 1 := by unfold tmF; rw [if_pos z1]
              rw [this] at fin
              exact fin
            · rw [if_pos z1]
              have : tmF (plS h k j) = 1 := by unfold tmF; rw [if_neg z1]
              rw [this] at fin
              exact fin
          · obtain ⟨H1, t1, t2, t3⟩ := u2 H e ev
            obtain ⟨H2, y3, y4, d3, d4, t4, t5, t6⟩ := w2 H1 (.inl (64 * (k : Int) + 4 * (j : Int))) (.inl (tmF (plS h k j))) rfl rfl t2 t3
            refine ⟨H2, y3, y4, d3, d4, ?_, t5, t6⟩
            rw [← t4, q255_47 (hz3 := c3) (hz4 := c4), if_pos (by omega), show ((k : Nat) : Int).toNat = k by omega, e.S _ _ rfl, ps1, if_neg (by omega), row_n k j hk (by omega), canM H e ev, cI_some, bi_t qc, if_neg (by omega), show ((j + 1 : Nat) : Int) = (j : Int) + 1 by omega]
            exact t1
        · refine ⟨(j : Int), c, v, fun H z3 z4 c3 c4 e ec => ⟨H, ?_, e, ec, rfl⟩, fun H z3 z4 c3 c4 e ev => ⟨H, z3, z4, c3, c4, ?_, e, ev⟩, r0.2.2.1.symm⟩
          · rw [q117_3 (hz3 := c3) (hz4 := c4), if_pos (by omega), show ((k : Nat) : Int).toNat = k by omega, e.S _ _ rfl, if_neg (by omega), canC H e ec, cI_some, bi_f qc, if_neg (by omega)]
          · rw [q255_47 (hz3 := c3) (hz4 := c4), if_pos (by omega), show ((k : Nat) : Int).toNat = k by omega, e.S _ _ rfl, ps1, if_neg (by omega), row_n k j hk (by omega), canM H e ev, cI_some, bi_f qc, if_pos rfl]
    -- the copies
    obtain ⟨H0, hH0⟩ : ∃ H0, H0 = cpy (cpy h (h 91) 93 0 0 37) ((cpy h (h 91) 93 0 0 37) 92) 94 0 0 400 := ⟨_, rfl⟩
    have c0 : H0 93 = fun j => if 0 ≤ j ∧ j < 0 + 37 then h 91 (0 + (j - 0)) else h 93 j := by rw [hH0, cpy_ne (by omega), cpy_at]
    have e0 : Eqv h H0 := fun a j rr => by
      rw [hH0, cpy_ne (fun z => by subst z; exact Bool.false_ne_true rr), cpy_ne (fun z => by subst z; exact Bool.false_ne_true rr)]
    have rc : stR (H0 93) (fun j => if 0 ≤ j ∧ j < 0 + (37 + 4 * h 110 36).toNat then h 110 (0 + (j - 0)) else h 111 j) := by
      rw [c0]
      refine stR_congr (fun j hj => ?_) (fun j hj => ?_) rr
      · rw [if_pos (by omega), Nat.zero_add, Nat.sub_zero]
      · rw [if_pos (by omega), Nat.zero_add, Nat.sub_zero]
    have oc : stOK (h 2 3) (h 2 4) b (H0 93) := by
      rw [c0]
      refine stOK_congr (Int.le_refl b) (fun j hj => ?_) l4 l6 o
      rw [if_pos (by omega), Nat.zero_add, Nat.sub_zero]
    obtain ⟨a, c2, v2, u1, u2, u3⟩ := key (h 31 k).toNat 0 _ _ b (by omega) (by omega) rc oc
    obtain ⟨H1, w1, w2, w3, w4⟩ := u1 H0 vU vU rfl rfl e0 rfl
    have eG : Eqv h (up H1 97 0 0) := w2.tr (Eqv.up rfl)
    have n0 : up H1 97 0 0 110 = h 110 := funext fun j => eG _ _ rfl
    have t0 : up H1 97 0 0 111 = h 111 := by rw [up_ne (by omega), w4, hH0, cpy_ne (by omega), cpy_ne (by omega)]
    have eC : Eqv h (cpy (up H1 97 0 0) (up H1 97 0 0 110) 111 0 0 (37 + 4 * up H1 97 0 0 110 36).toNat) := fun a j rr => by
      rw [cpy_ne (fun z => by subst z; exact Bool.false_ne_true rr)]
      exact eG a j rr
    obtain ⟨H2, y3, y4, d3, d4, x1, x2, x3⟩ := u2 _ vU vU rfl rfl eC (by rw [cpy_at, n0, t0])
    have m0 : up H1 97 0 0 97 26 = h 2 3 := by rw [eG 97 _ rfl, l1]
    have m1 : up H1 97 0 0 97 30 = h 7 1 := by rw [eG 97 _ rfl, pn1]
    have z1 : H1 31 k = h 31 k := w2 _ _ rfl
    have z2 : H1 91 0 = h 91 0 := w2 _ _ rfl
    have z3 : H2 109 k = h 31 k := by rw [x2 109 _ rfl, ps1]
    have z4 : H2 110 31 = h 91 0 := by rw [x2 110 _ rfl, s1]
    refine ⟨if y = 1 then wI (h 91 0 - c2 0) else if a = h 31 k then -1 else a, H1, H2, ?_, ?_, x2.X i⟩
    · rw [q116_0, e_isTold, cI_some, bi_t qf, if_neg (by omega), e_has, cI_some, bi_t qx, if_neg (by omega), if_neg (by omega), if_pos qy.2, q111_0_2, cV_some, ← hH0, q117_0]
      refine (congrArg (fun t => cI t _) w1).trans ?_
      rw [cI_some, z2, w3, show ((k : Nat) : Int).toNat = k by omega, z1]
      by_cases y1 : y = 1
      · rw [if_neg (fun z => z y1), if_pos y1]
      · rw [if_pos y1, if_neg y1, if_pos (by omega)]
        by_cases y2 : a = h 31 k
        · rw [if_neg (fun z => z y2), if_pos y2]
        · rw [if_pos y2, if_neg y2]
    · rw [q255_0, m_isPlan, cI_some, m1, bi_t qx, if_neg (by omega), m0, if_neg (by omega), m_isIn, cI_some, bi_t qy, if_pos (by omega), m_copyT _ _ (by rw [n0]; exact s8.1) (by rw [n0]; exact s8.2), cV_some]
      refine x1.trans ?_
      rw [q255_122 (hz3 := d3) (hz4 := d4), show ((k : Nat) : Int).toNat = k by omega, z3, z4, x3, ← u3]
      by_cases y1 : y = 1
      · rw [if_neg (fun z => z y1), if_pos y1]
      · rw [if_pos y1, if_neg y1, if_pos (by omega)]
        by_cases y2 : a = h 31 k
        · rw [if_neg (fun z => z y2), if_pos y2]
        · rw [if_pos y2, if_neg y2]
  · refine Pr_X i (Pr_no i.1.1 (v := -1000000) ?_ ?_)
    · rw [q116_0, e_isTold, cI_some]
      by_cases q1 : 0 < h 2 3
      · rw [bi_t q1, if_neg (by omega), e_has, cI_some]
        by_cases q2 : 0 ≤ x ∧ x < h 7 1
        · rw [bi_t q2, if_neg (by omega)]
          by_cases q3 : y < 0
          · rw [if_pos q3]
          · rw [if_neg q3, if_neg (by omega)]
        · rw [bi_f q2, if_pos rfl]
      · rw [bi_f q1, if_pos rfl]
    · rw [q255_0, m_isPlan, cI_some, up_i (by omega), pn1]
      by_cases q2 : 0 ≤ x ∧ x < h 7 1
      · rw [bi_t q2, if_neg (by omega), up_i (by omega), l1]
        by_cases q1 : h 2 3 = 0
        · rw [if_pos q1]
        · rw [if_neg q1, m_isIn, cI_some, bi_f (by omega), if_neg (by omega)]
      · rw [bi_f q2, if_pos rfl]
