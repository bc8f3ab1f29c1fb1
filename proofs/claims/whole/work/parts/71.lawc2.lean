/-! laws: the class' reader of conditions, clauses, the whole -/
theorem e_cmpT {T : Nat → Int} {L : Nat} (d : Nat) {x0 : Int} {sum : Nat → PR} (hp : PL L sum) (hs : CPp T L (fun g => Run d 24 0 [vR 5, .inl x0, vU, vU, vU, vU] [] g) sum) {h : MH} {a n : Nat} {c1 : List Int} {v1 : VF} {z1 z2 z3 : MV} (ha : a ≤ L) (t : TC T L h) (y1 : cat z1 = 1) (y2 : cat z2 = 1) (y3 : cat z3 = 1) (hn : h 5 1 = ((n + c1.length : Nat) : Int)) (rd : rdL (h 22) n c1) (hna : n + c1.length ≤ a) :
    CO h n (cmF T L sum a c1 v1) (Run (d + 1) 37 116 [vR 5, .inl x0, z1, z2, z3] [] (ca h a)) := by
  have l240 := t.1.1
  have l1 := sk_le T L a
  have l2 := sk_L (T := T) ha
  have hd := q37_116 d x0 z1 y1 z2 y2 z3 y3 (ca h a)
  rw [e_nextT t d ha, cI_some, e_comp, cI_some] at hd
  unfold cmF
  rcases cg_c T L (skF T L a) with q | ⟨q, q2⟩
  · rw [if_neg (fun z => z q)] at hd
    rw [if_pos q]
    exact CO_n hd (frL.rf h n)
  · rw [if_pos (by omega), ca_nx h (by omega)] at hd
    rw [if_neg (by omega)]
    have g := hs h (skF T L a + 1) (n + c1.length) q2 t hn (by omega)
    have gp := hp (skF T L a + 1) q2
    generalize sum (skF T L a + 1) = o at g gp ⊢
    obtain ⟨q5, o⟩ := o
    cases o with
    | none =>
      obtain ⟨h2, u1, u2⟩ := CO_nI g
      have u1' : Run d 24 0 [vR 5, .inl x0, vU, vU, vU, vU] [] (ca h (skF T L a + 1)) = some (some (.inl 0), ca h2 q5) := u1
      rw [u1', cI_some, if_neg (fun z => z rfl)] at hd
      exact CO_n hd ((frL.rf h n).tr u2 (by omega))
    | some cv =>
      obtain ⟨c, v⟩ := cv
      have g2 : q5 ≤ L := gp.2.1
      have g3 : skF T L a + 1 + c.length ≤ q5 := (gp.2.2 c v rfl).1
      obtain ⟨h2, u1, u2, u3, u4⟩ := CO_sI g
      have u1' : Run d 24 0 [vR 5, .inl x0, vU, vU, vU, vU] [] (ca h (skF T L a + 1)) = some (some (.inl 1), ca h2 q5) := u1
      have e3 : (c1 ++ c).length = c1.length + c.length := List.length_append
      have u3' : h2 5 1 = ((n + (c1 ++ c).length : Nat) : Int) := by rw [u3, e3]; omega
      rw [u1', cI_some, if_pos (by omega), e_write0 d h2 u3' (by omega) (by omega) (by omega), cV_some] at hd
      have rd2 : rdL (h2 22) n (c1 ++ c) := by
        rw [rdL_app]
        exact ⟨rdL_c _ n (fun j j1 j2 => u2.2 j j2) rd, u4⟩
      have f3 := wrH_fr h2 (n + (c1 ++ c).length) (cgF T L (skF T L a))
      have fr := ((frL.rf h n).tr u2 (by omega)).tr f3 (by omega)
      refine CO_s hd fr ?_ (wrH_r rd2)
      rw [wrH_n, List.length_append (as := c1 ++ c)]
      show ((n + (c1 ++ c).length + 1 : Nat) : Int) = ((n + ((c1 ++ c).length + 1) : Nat) : Int)
      omega
theorem cm_sk {T : Nat → Int} {L : Nat} {sum : Nat → PR} {a : Nat} {c1 : List Int} {v1 : VF} (ha : a ≤ L) : cmF T L sum (skF T L a) c1 v1 = cmF T L sum a c1 v1 := by
  unfold cmF
  rw [sk_sk ha]
theorem e_unit {T : Nat → Int} {L : Nat} (d : Nat) {x0 : Int} (x00 : 0 ≤ x0) (x06 : x0 ≤ 6) {ok : Bool} (hok : ok = true ↔ x0 < 6) {subU subC sum : Nat → PR} (pU : PL L subU) (pC : PL L subC) (pS : PL L sum)
    (hU : ok = true → CPp T L (fun g => Run (d + 1) 37 0 [vR 5, .inl (x0 + 1), .inl 0, vU, vU] [] g) subU)
    (hC : ok = true → CPp T L (fun g => Run (d + 1) 36 0 [vR 5, .inl (x0 + 1), .inl 0, vU, vU, vU] [] g) subC)
    (hS : CPp T L (fun g => Run (d + 1) 24 0 [vR 5, .inl x0, vU, vU, vU, vU] [] g) sum) :
    CPp T L (fun g => Run (d + 2) 37 0 [vR 5, .inl x0, .inl 0, vU, vU] [] g) (unF T L ok subU subC sum) := by
  intro h a n ha t hn hna
  have l240 := t.1.1
  obtain ⟨p, hp0⟩ : ∃ p, p = skF T L a := ⟨_, rfl⟩
  have pL : p ≤ L := by rw [hp0]; exact sk_L ha
  have pa : a ≤ p := by rw [hp0]; exact sk_le T L a
  have hd := q37_0 (d + 1) x0 0 (ca h a)
  rw [e_nextT t _ ha, cI_some, ← hp0, if_neg (fun z => z rfl)] at hd
  have hd24 := q37_24 (d + 1) x0 (.inl 0) rfl (ngF T L p) vU rfl (ca h p)
  unfold unF
  rw [← hp0]
  by_cases z1 : sgF T L p 33
  · have e1 := (ng_sg (by omega)).2 z1
    rw [if_pos e1, hd24] at hd
    rw [if_pos z1]
    by_cases z2 : ok = true
    · rw [if_pos (hok.1 z2), if_pos (by omega), ca_nx h (by omega), wI_ok (by omega) (by omega)] at hd
      rw [if_pos z2]
      have g := hU z2 h (p + 1) n z1.1 t hn (by omega)
      have gp := pU (p + 1) z1.1
      unfold ntF
      generalize subU (p + 1) = o at g gp ⊢
      obtain ⟨q5, o⟩ := o
      cases o with
      | none =>
        obtain ⟨h2, u1, u2⟩ := CO_nI g
        have u1' : Run (d + 1) 37 0 [vR 5, .inl (x0 + 1), .inl 0, vU, vU] [] (ca h (p + 1)) = some (some (.inl 0), ca h2 q5) := u1
        rw [u1', cI_some, if_neg (fun z => z rfl)] at hd
        exact CO_n hd u2
      | some cv =>
        obtain ⟨c, v⟩ := cv
        have g2 : q5 ≤ L := gp.2.1
        have g3 : p + 1 + c.length ≤ q5 := (gp.2.2 c v rfl).1
        obtain ⟨h2, u1, u2, u3, u4⟩ := CO_sI g
        have u1' : Run (d + 1) 37 0 [vR 5, .inl (x0 + 1), .inl 0, vU, vU] [] (ca h (p + 1)) = some (some (.inl 1), ca h2 q5) := u1
        rw [u1', cI_some, if_pos (by omega), e_write0 (d + 1) h2 u3 (by omega) (by omega) (by omega), cV_some] at hd
        refine CO_s hd (u2.tr (wrH_fr h2 (n + c.length) 11) (by omega)) ?_ (wrH_r u4)
        rw [wrH_n, List.length_append]
        show ((n + c.length + 1 : Nat) : Int) = ((n + (c.length + 1) : Nat) : Int)
        omega
    · rw [if_neg (fun z => z2 (hok.2 z))] at hd
      rw [if_neg z2]
      exact CO_n hd (frL.rf h n)
  · rw [if_neg (ng_no (by omega) z1)] at hd
    rw [if_neg z1]
    by_cases z3 : sgF T L p 40
    · have e1 := (ng_sg (by omega)).2 z3
      rw [if_neg (fun z => z e1), hd24] at hd
      rw [if_pos z3]
      by_cases z2 : ok = true
      · rw [if_pos (hok.1 z2), if_neg (fun z => z e1), ca_nx h (by omega), wI_ok (by omega) (by omega)] at hd
        rw [if_pos z2]
        have g := hC z2 h (p + 1) n z3.1 t hn (by omega)
        have gp := pC (p + 1) z3.1
        unfold clsF
        generalize subC (p + 1) = o at g gp ⊢
        obtain ⟨q5, o⟩ := o
        cases o with
        | none =>
          obtain ⟨h2, u1, u2⟩ := CO_nI g
          have u1' : Run (d + 1) 36 0 [vR 5, .inl (x0 + 1), .inl 0, vU, vU, vU] [] (ca h (p + 1)) = some (some (.inl 0), ca h2 q5) := u1
          rw [u1', cI_some, if_pos rfl] at hd
          exact CO_n hd u2
        | some cv =>
          obtain ⟨c, v⟩ := cv
          have g2 : q5 ≤ L := gp.2.1
          obtain ⟨h2, u1, u2, u3, u4⟩ := CO_sI g
          have u1' : Run (d + 1) 36 0 [vR 5, .inl (x0 + 1), .inl 0, vU, vU, vU] [] (ca h (p + 1)) = some (some (.inl 1), ca h2 q5) := u1
          rw [u1', cI_some, if_neg (by omega), e_take (u2.T t) d g2 (by omega), cI_some] at hd
          dsimp only
          by_cases z4 : sgF T L (skF T L q5) 41
          · rw [bi_t z4, if_neg (by omega), if_pos z4] at hd
            rw [if_pos z4]
            exact CO_s hd u2 u3 u4
          · rw [bi_f z4, if_pos rfl, if_neg z4] at hd
            rw [if_neg z4]
            exact CO_n hd u2
      · rw [if_neg (fun z => z2 (hok.2 z))] at hd
        rw [if_neg z2]
        exact CO_n hd (frL.rf h n)
    · rw [if_pos (ng_no (by omega) z3), if_neg (fun z => z rfl)] at hd
      rw [if_neg z3]
      have g := hS h p n pL t hn (by omega)
      have gp := pS p pL
      unfold c2F
      generalize sum p = o at g gp ⊢
      obtain ⟨q5, o⟩ := o
      cases o with
      | none =>
        obtain ⟨h2, u1, u2⟩ := CO_nI g
        have u1' : Run (d + 1) 24 0 [vR 5, .inl x0, vU, vU, vU, vU] [] (ca h p) = some (some (.inl 0), ca h2 q5) := u1
        rw [u1', cI_some, if_neg (fun z => z rfl)] at hd
        exact CO_n hd u2
      | some cv =>
        obtain ⟨c, v⟩ := cv
        have g2 : q5 ≤ L := gp.2.1
        have g3 : p + c.length ≤ q5 := (gp.2.2 c v rfl).1
        obtain ⟨h2, u1, u2, u3, u4⟩ := CO_sI g
        have u1' : Run (d + 1) 24 0 [vR 5, .inl x0, vU, vU, vU, vU] [] (ca h p) = some (some (.inl 1), ca h2 q5) := u1
        rw [u1', cI_some, if_pos (by omega)] at hd
        have g6 := e_cmpT (d + 1) (z1 := .inl 0) (z2 := .inl (ngF T L p)) (z3 := vU) (v1 := v) pS hS g2 (u2.T t) rfl rfl rfl u3 u4 (by omega)
        obtain ⟨h3, v1, v2, v3⟩ := g6
        exact ⟨h3, hd.trans v1, u2.tr v2 (Nat.le_refl n), v3⟩
/-- a comparison whose first sum is read -/
theorem e_unit1 {T : Nat → Int} {L : Nat} (d : Nat) {x0 : Int} {sum : Nat → PR} (pS : PL L sum) (hS : CPp T L (fun g => Run d 24 0 [vR 5, .inl x0, vU, vU, vU, vU] [] g) sum) {h : MH} {a n : Nat} {c1 : List Int} {v1 : VF} (ha : a ≤ L) (t : TC T L h) (hn : h 5 1 = ((n + c1.length : Nat) : Int)) (rd : rdL (h 22) n c1) (hna : n + c1.length ≤ a) :
    CO h n (cmF T L sum a c1 v1) (Run (d + 1) 37 0 [vR 5, .inl x0, .inl 1, vU, vU] [] (ca h a)) := by
  have l1 := sk_le T L a
  have hd := q37_0 d x0 1 (ca h a)
  rw [e_nextT t _ ha, cI_some, if_pos (by omega), if_pos (by omega)] at hd
  rw [← cm_sk ha]
  rw [hd]
  exact e_cmpT d pS hS (sk_L ha) t rfl rfl rfl hn rd (by omega)
theorem e_condL {T : Nat → Int} {L : Nat} (d : Nat) {x0 : Int} {un : Nat → PR} (hp : PL L un) (hs : CPp T L (fun g => Run (d + 1) 37 0 [vR 5, .inl x0, .inl 0, vU, vU] [] g) un) :
    ∀ (r i a n : Nat) (w : Bool) (cs : List Int) (vs vt : VF) (z1 z4 : MV) (h : MH), i + r = 241 → 241 ≤ a + r → a ≤ L → TC T L h → cat z1 = 1 → cat z4 = 1 → h 5 1 = ((n + cs.length : Nat) : Int) → rdL (h 22) n cs → n + (cs.length + if w = true then 1 else 0) ≤ a →
      CO h n (cdL T L un r a w cs vs vt) (Run (d + 2) 36 16 [vR 5, .inl x0, z1, .inl (bi (w = true)), .inl (i : Int), z4] [] (ca h a)) := by
  intro r
  induction r with
  | zero =>
    intro i a n w cs vs vt z1 z4 h hi hr ha t c1 c4 hn rd hl
    have := t.1.1
    omega
  | succ r ih =>
    intro i a n w cs vs vt z1 z4 h hi hr ha t c1 c4 hn rd hl
    have l240 := t.1.1
    have l1 := sk_le T L a
    have l2 := sk_L (T := T) ha
    have fl := cw_len w cs
    have hd := q36_16 (d + 1) x0 z1 c1 (bi (w = true)) (i : Int) z4 c4 (ca h a)
    rw [if_neg (by omega), e_take t d ha (by omega), cI_some] at hd
    have wr : ∀ p : Nat, w = true → n + (cs.length + 1) ≤ 240 → Run (d + 1) 33 0 [vR 5, .inl 10, .inl 0] [] (ca h p) = some (none, ca (wrH h (n + cs.length) 10) p) := fun p q1 q2 => e_write0 (d + 1) h hn (by omega) (by omega) (by omega)
    have wf : frL h (wrH h (n + cs.length) 10) n := ⟨(wrH_fr h (n + cs.length) 10).1, fun j hj => (wrH_fr h (n + cs.length) 10).2 j (by omega)⟩
    unfold cdL
    by_cases z2 : sgF T L (skF T L a) 124
    · rw [if_pos z2]
      rw [bi_t z2, if_pos (by omega), if_pos z2, q36_55 (hz1 := c1), if_neg (by omega)] at hd
      have st : ∃ h1, frL h h1 n ∧ TC T L h1 ∧ h1 5 1 = ((n + (if w = true then cs ++ [10] else cs).length : Nat) : Int) ∧ rdL (h1 22) n (if w = true then cs ++ [10] else cs) ∧ Run (d + 2) 36 16 [vR 5, .inl x0, z1, .inl (bi (w = true)), .inl (i : Int), z4] [] (ca h a) = Run (d + 2) 36 85 [vR 5, .inl x0, z1, .inl (bi (w = true)), .inl (i : Int), .inl 1] [.inl 1] (ca h1 (skF T L a + 1)) := by
        by_cases q3 : w = true
        · rw [if_pos q3] at hl
          refine ⟨_, wf, wf.T t, ?_, ?_, ?_⟩
          · rw [wrH_n, cw_len, if_pos q3]; omega
          · rw [if_pos q3]; exact wrH_r rd
          · rw [hd, bi_t q3, if_neg (by omega), wr _ q3 (by omega), cV_some, if_pos (by omega)]
        · refine ⟨h, frL.rf h n, t, ?_, ?_, ?_⟩
          · rw [hn, cw_len, if_neg q3]; rfl
          · rw [if_neg q3]; exact rd
          · rw [hd, bi_f q3, if_pos rfl, if_neg (fun z => z rfl), if_neg (by omega)]
      obtain ⟨h1, f1, t1, m1, m2, hd1⟩ := st
      rw [q36_85 (hz1 := c1) (hz2 := rfl)] at hd1
      have g := hs h1 (skF T L a + 1) _ z2.1 t1 m1 (by omega)
      have gp := hp (skF T L a + 1) z2.1
      generalize un (skF T L a + 1) = o at g gp ⊢
      obtain ⟨q5, o⟩ := o
      have g1 : skF T L a + 1 ≤ q5 := gp.1
      cases o with
      | none =>
        obtain ⟨h2, u1, u2⟩ := CO_nI g
        have u1' : Run (d + 1) 37 0 [vR 5, .inl x0, .inl 0, vU, vU] [] (ca h1 (skF T L a + 1)) = some (some (.inl 0), ca h2 q5) := u1
        rw [u1', cI_some, if_neg (fun z => z rfl)] at hd1
        exact CO_n hd1 (f1.tr u2 (by omega))
      | some cv =>
        obtain ⟨c, v⟩ := cv
        have g2 : q5 ≤ L := gp.2.1
        have g3 : skF T L a + 1 + c.length ≤ q5 := (gp.2.2 c v rfl).1
        obtain ⟨h2, u1, u2, u3, u4⟩ := CO_sI g
        have u1' : Run (d + 1) 37 0 [vR 5, .inl x0, .inl 0, vU, vU] [] (ca h1 (skF T L a + 1)) = some (some (.inl 1), ca h2 q5) := u1
        rw [u1', cI_some, if_pos (by omega), if_pos (by omega), wI_ok (by omega) (by omega)] at hd1
        have fr := f1.tr u2 (show n ≤ n + (if w = true then cs ++ [10] else cs).length by omega)
        have e3 : ((if w = true then cs ++ [10] else cs) ++ c).length = (if w = true then cs ++ [10] else cs).length + c.length := List.length_append
        have ii := ih (i + 1) q5 n true ((if w = true then cs ++ [10] else cs) ++ c) (if w = true then fun lt => iOr (vs lt) (vt lt) else vt) v z1 (.inl 1) h2 (by omega) (by omega) g2 (fr.T t) c1 rfl (by rw [u3, e3]; omega) (by
          rw [rdL_app]
          exact ⟨rdL_c _ n (fun j j1 j2 => u2.2 j j2) m2, u4⟩) (by rw [e3, if_pos rfl]; omega)
        obtain ⟨h3, v1, v2, v3⟩ := ii
        exact ⟨h3, hd1.trans v1, fr.tr v2 (Nat.le_refl n), v3⟩
    · rw [if_neg z2]
      rw [bi_f z2, if_neg (fun z => z rfl), if_neg z2, e_take t d l2 (by omega), sk_sk ha, cI_some] at hd
      by_cases z3 : sgF T L (skF T L a) 38
      · rw [if_pos z3]
        rw [bi_t z3, if_pos (by omega), if_pos z3, q36_55 (hz1 := c1), if_pos rfl] at hd
        have hd1 : Run (d + 2) 36 16 [vR 5, .inl x0, z1, .inl (bi (w = true)), .inl (i : Int), z4] [] (ca h a) = Run (d + 2) 36 85 [vR 5, .inl x0, z1, .inl (bi (w = true)), .inl (i : Int), .inl 0] [.inl (bi (w = true))] (ca h (skF T L a + 1)) := by
          by_cases q3 : w = true
          · rw [hd, bi_t q3, if_pos (by omega)]
          · rw [hd, bi_f q3, if_neg (fun z => z rfl), if_pos rfl]
        rw [q36_85 (hz1 := c1) (hz2 := rfl)] at hd1
        have g := hs h (skF T L a + 1) _ z3.1 t hn (by omega)
        have gp := hp (skF T L a + 1) z3.1
        generalize un (skF T L a + 1) = o at g gp ⊢
        obtain ⟨q5, o⟩ := o
        have g1 : skF T L a + 1 ≤ q5 := gp.1
        cases o with
        | none =>
          obtain ⟨h2, u1, u2⟩ := CO_nI g
          have u1' : Run (d + 1) 37 0 [vR 5, .inl x0, .inl 0, vU, vU] [] (ca h (skF T L a + 1)) = some (some (.inl 0), ca h2 q5) := u1
          rw [u1', cI_some, if_neg (fun z => z rfl)] at hd1
          exact CO_n hd1 ((frL.rf h n).tr u2 (by omega))
        | some cv =>
          obtain ⟨c, v⟩ := cv
          have g2 : q5 ≤ L := gp.2.1
          have g3 : skF T L a + 1 + c.length ≤ q5 := (gp.2.2 c v rfl).1
          obtain ⟨h2, u1, u2, u3, u4⟩ := CO_sI g
          have u1' : Run (d + 1) 37 0 [vR 5, .inl x0, .inl 0, vU, vU] [] (ca h (skF T L a + 1)) = some (some (.inl 1), ca h2 q5) := u1
          have e3 : (cs ++ c).length = cs.length + c.length := List.length_append
          have u3' : h2 5 1 = ((n + (cs ++ c).length : Nat) : Int) := by rw [u3, e3]; omega
          rw [u1', cI_some, if_pos (by omega), if_neg (fun z => z rfl), e_write0 (d + 1) h2 u3' (by omega) (by omega) (by omega), cV_some, wI_ok (by omega) (by omega)] at hd1
          have rd2 : rdL (h2 22) n (cs ++ c) := by
            rw [rdL_app]
            exact ⟨rdL_c _ n (fun j j1 j2 => u2.2 j j2) rd, u4⟩
          have f3 := wrH_fr h2 (n + (cs ++ c).length) 9
          have fr : frL h (wrH h2 (n + (cs ++ c).length) 9) n := ((frL.rf h n).tr u2 (by omega)).tr f3 (by omega)
          have e2 : (cs ++ c ++ [(9 : Int)]).length = cs.length + c.length + 1 := by rw [List.length_append, List.length_append]; rfl
          have ii := ih (i + 1) q5 n w (cs ++ c ++ [9]) vs (fun lt => iAnd (vt lt) (v lt)) z1 (.inl 0) _ (by omega) (by omega) g2 (fr.T t) c1 rfl (by rw [wrH_n, e2, e3]; omega) (wrH_r rd2) (by rw [e2]; omega)
          obtain ⟨h3, v1, v2, v3⟩ := ii
          exact ⟨h3, hd1.trans v1, fr.tr v2 (Nat.le_refl n), v3⟩
      · rw [if_neg z3]
        rw [bi_f z3, if_neg (fun z => z rfl), if_neg z3] at hd
        by_cases q3 : w = true
        · rw [if_pos q3] at hl
          rw [bi_t q3, if_neg (by omega), wr _ q3 (by omega), cV_some] at hd
          rw [if_pos q3, if_pos q3]
          refine CO_s (by rw [bi_t q3]; exact hd) wf ?_ (wrH_r rd)
          rw [wrH_n, List.length_append]
          show ((n + cs.length + 1 : Nat) : Int) = ((n + (cs.length + 1) : Nat) : Int)
          omega
        · rw [bi_f q3, if_pos rfl] at hd
          rw [if_neg q3, if_neg q3]
          exact CO_s (by rw [bi_f q3]; exact hd) (frL.rf h n) hn rd
theorem e_condG {T : Nat → Int} {L : Nat} (d : Nat) {x0 : Int} {un : Nat → PR} (hp : PL L un) (hs : CPp T L (fun g => Run (d + 1) 37 0 [vR 5, .inl x0, .inl 0, vU, vU] [] g) un) {h : MH} {a n b : Nat} {x1 : Int} {o : PR} (t : TC T L h) (hb : n ≤ b) (g : CO h n o (Run (d + 1) 37 0 [vR 5, .inl x0, .inl x1, vU, vU] [] (ca h a))) (gp : PO L b o) :
    CO h n (cdG T L un o) (Run (d + 2) 36 0 [vR 5, .inl x0, .inl x1, vU, vU, vU] [] (ca h a)) := by
  have hd := q36_0 (d + 1) x0 x1 (ca h a)
  unfold cdG
  obtain ⟨q5, o⟩ := o
  cases o with
  | none =>
    obtain ⟨h2, u1, u2⟩ := CO_nI g
    have u1' : Run (d + 1) 37 0 [vR 5, .inl x0, .inl x1, vU, vU] [] (ca h a) = some (some (.inl 0), ca h2 q5) := u1
    rw [u1', cI_some, if_neg (fun z => z rfl)] at hd
    exact CO_n hd u2
  | some cv =>
    obtain ⟨c, v⟩ := cv
    obtain ⟨h2, u1, u2, u3, u4⟩ := CO_sI g
    have u1' : Run (d + 1) 37 0 [vR 5, .inl x0, .inl x1, vU, vU] [] (ca h a) = some (some (.inl 1), ca h2 q5) := u1
    rw [u1', cI_some, if_pos (by omega)] at hd
    have g3 : b + c.length ≤ q5 := (gp.2.2 c v rfl).1
    have ii := e_condL d hp hs 241 0 q5 n false c (fun _ => 0) v (.inl x1) vU h2 (by omega) (by omega) gp.2.1 (u2.T t) rfl rfl u3 u4 (by show n + (c.length + 0) ≤ q5; omega)
    obtain ⟨h3, v1, v2, v3⟩ := ii
    exact ⟨h3, hd.trans v1, u2.tr v2 (Nat.le_refl n), v3⟩
theorem e_lvU (T : Nat → Int) (L : Nat) : ∀ (k d : Nat), k ≤ 6 → CPp T L (fun g => Run (d + 2 * k + 9) 37 0 [vR 5, .inl (6 - (k : Int)), .inl 0, vU, vU] [] g) (lvU T L k)
  | 0, d, _ => e_unit (d + 7) (by omega) (by omega) (by constructor <;> intro z <;> first | cases z | omega) (no_P L) (no_P L) (lvS_P T L 0) (fun z => by cases z) (fun z => by cases z) (e_lvS T L 0 (d + 1) (by omega))
  | k + 1, d, hk => by
    have iu := e_lvU T L k (d + 1) (by omega)
    have iu0 := e_lvU T L k d (by omega)
    have e := e_unit (T := T) (L := L) (d + 2 * k + 9) (x0 := 6 - ((k + 1 : Nat) : Int)) (by omega) (by omega) (ok := true) (by constructor <;> intro _ <;> first | rfl | omega) (lvU_P T L k) (lvC_P T L k) (lvS_P T L (k + 1)) (fun _ => by
      rw [show (6 - ((k + 1 : Nat) : Int) + 1) = 6 - (k : Int) by omega, show d + 2 * k + 9 + 1 = d + 1 + 2 * k + 9 by omega]
      exact iu) (fun _ => by
      rw [show (6 - ((k + 1 : Nat) : Int) + 1) = 6 - (k : Int) by omega]
      intro h a n ha t hn hna
      exact e_condG (d + 2 * k + 8) (lvU_P T L k) iu0 t hna (iu0 h a n ha t hn hna) (lvU_P T L k a ha)) (by
      have := e_lvS T L (k + 1) (d + 1) hk
      rw [show d + 1 + 2 * (k + 1) + 7 = d + 2 * k + 9 + 1 by omega] at this
      exact this)
    rw [show d + 2 * (k + 1) + 9 = d + 2 * k + 9 + 2 by omega]
    exact e
theorem e_lvC (T : Nat → Int) (L k d : Nat) (hk : k ≤ 6) : CPp T L (fun g => Run (d + 2 * k + 10) 36 0 [vR 5, .inl (6 - (k : Int)), .inl 0, vU, vU, vU] [] g) (lvC T L k) := by
  intro h a n ha t hn hna
  have iu0 := e_lvU T L k d hk
  exact e_condG (d + 2 * k + 8) (lvU_P T L k) iu0 t hna (iu0 h a n ha t hn hna) (lvU_P T L k a ha)
abbrev CK (h : MH) (n : Nat) (o : Nat × Option CE) (r : Option (Option MV × MH)) : Prop := ∃ h2, r = some (some (.inl (bi (o.2.isSome = true))), ca h2 o.1) ∧ frL h h2 n ∧ ∀ e, o.2 = some e → h2 5 1 = ((n + (ceC n e).length : Nat) : Int) ∧ rdL (h2 22) n (ceC n e)
theorem CK_n {h h2 : MH} {n q : Nat} {r : Option (Option MV × MH)} (e : r = some (some (.inl 0), ca h2 q)) (f : frL h h2 n) : CK h n (q, none) r := ⟨h2, e, f, fun c z => by cases z⟩
theorem CK_s {h h2 : MH} {n q : Nat} {c : CE} {r : Option (Option MV × MH)} (e : r = some (some (.inl 1), ca h2 q)) (f : frL h h2 n) (g1 : h2 5 1 = ((n + (ceC n c).length : Nat) : Int)) (g2 : rdL (h2 22) n (ceC n c)) : CK h n (q, some c) r := ⟨h2, e, f, fun c' z => by
  have e : c = c' := Option.some.inj z
  rw [← e]; exact ⟨g1, g2⟩⟩
/-- behind a condition -/
theorem e_clauseT {T : Nat → Int} {L : Nat} (d : Nat) {h : MH} {a n b : Nat} {x1 : Int} {z0 z2 : MV} {o : PR} (t : TC T L h) (y0 : cat z0 = 1) (y2 : cat z2 = 1) (hb : n + 1 ≤ b) (g : CO h n o (Run (d + 22) 36 0 [vR 5, .inl 0, .inl x1, vU, vU, vU] [] (ca h a))) (gp : PO L b o) :
    CK h n (cuT T L o) (Run (d + 23) 23 93 [vR 5, z0, .inl x1, z2] [] (ca h a)) := by
  have hd := q23_93 (d + 22) z0 y0 x1 z2 y2 (ca h a)
  have l240 := t.1.1
  unfold cuT
  obtain ⟨q5, o⟩ := o
  cases o with
  | none =>
    obtain ⟨h2, u1, u2⟩ := CO_nI g
    have u1' : Run (d + 22) 36 0 [vR 5, .inl 0, .inl x1, vU, vU, vU] [] (ca h a) = some (some (.inl 0), ca h2 q5) := u1
    rw [u1', cI_some, if_pos rfl] at hd
    exact CK_n hd u2
  | some cv =>
    obtain ⟨c, v⟩ := cv
    obtain ⟨h2, u1, u2, u3, u4⟩ := CO_sI g
    have g2 : q5 ≤ L := gp.2.1
    have g3 : b + c.length ≤ q5 := (gp.2.2 c v rfl).1
    have l1 := sk_le T L q5
    have u1' : Run (d + 22) 36 0 [vR 5, .inl 0, .inl x1, vU, vU, vU] [] (ca h a) = some (some (.inl 1), ca h2 q5) := u1
    rw [u1', cI_some, if_neg (by omega), e_take (u2.T t) (d + 21) g2 (by omega), cI_some] at hd
    dsimp only
    by_cases z : sgF T L (skF T L q5) 63
    · have zL : skF T L q5 < L := z.1
      have e12 := e_write0 (d + 22) h2 (a := skF T L q5 + 1) (s := 12) u3 (by omega) (by omega) (by omega)
      have t2 := u2.T t
      have f3 := wrH_fr h2 (n + c.length) 12
      have t3 := f3.T t2
      have es := e_lvS T L 6 (d + 3) (by omega) (wrH h2 (n + c.length) 12) (skF T L q5 + 1) (n + c.length + 1) z.1 t3 (wrH_n _ _ _) (by omega)
      have sp := lvS_P T L 6 (skF T L q5 + 1) z.1
      rw [bi_t z, if_pos (by omega), if_pos z, e12, cV_some] at hd
      rw [if_pos z]
      generalize lvS T L 6 (skF T L q5 + 1) = o2 at es sp ⊢
      obtain ⟨q6, o2⟩ := o2
      cases o2 with
      | none =>
        obtain ⟨h4, w1, w2⟩ := CO_nI es
        have w1' : Run (d + 22) 24 0 [vR 5, .inl 0, vU, vU, vU, vU] [] (ca (wrH h2 (n + c.length) 12) (skF T L q5 + 1)) = some (some (.inl 0), ca h4 q6) := w1
        rw [w1', cI_some, if_neg (fun z => z rfl)] at hd
        exact CK_n hd ((u2.tr f3 (by omega)).tr w2 (by omega))
      | some cv2 =>
        obtain ⟨c2, v2⟩ := cv2
        obtain ⟨h4, w1, w2, w3, w4⟩ := CO_sI es
        have s2 : q6 ≤ L := sp.2.1
        have s3 : skF T L q5 + 1 + c2.length ≤ q6 := (sp.2.2 c2 v2 rfl).1
        have w1' : Run (d + 22) 24 0 [vR 5, .inl 0, vU, vU, vU, vU] [] (ca (wrH h2 (n + c.length) 12) (skF T L q5 + 1)) = some (some (.inl 1), ca h4 q6) := w1
        have e13 := e_write0 (d + 22) h4 (a := q6) (s := 13) w3 (by omega) (by omega) (by omega)
        have sz : ca h2 (skF T L q5 + 1) 5 1 = ((n + c.length : Nat) : Int) := by rw [ca_ne _ _ (by omega)]; exact u3
        have sz4 : ca (wrH h4 (n + c.length + 1 + c2.length) 13) q6 5 1 = ((n + c.length + 1 + c2.length + 1 : Nat) : Int) := by rw [ca_ne _ _ (by omega), wrH_n]
        rw [w1', cI_some, if_pos (by omega), e13, cV_some, sz, sz4, if_neg (by omega), if_pos (by omega), wI_ok (x := ((n + c.length + 1 + c2.length + 1 : Nat) : Int) * 16) (by omega) (by omega), wI_ok (by omega) (by omega), show (((n + c.length : Nat) : Int)).toNat = n + c.length by omega, ca_up _ _ _ (by omega)] at hd
        have f5 := wrH_fr h4 (n + c.length + 1 + c2.length) 13
        refine CK_s hd ?_ ?_ ?_
        · have fr := ((u2.tr f3 (by omega)).tr w2 (by omega)).tr f5 (by omega)
          exact ⟨fun k k1 k2 => by rw [up_ne k2, fr.1 k k1 k2], fun j hj => by rw [up_i (by omega), fr.2 j hj]⟩
        · rw [up_ne (by omega), wrH_n]
          show _ = ((n + (c ++ [((n + c.length + 1 + c2.length + 1 : Nat) : Int) * 16 + 12] ++ c2 ++ [13]).length : Nat) : Int)
          rw [List.length_append, List.length_append, List.length_append]
          show ((n + c.length + 1 + c2.length + 1 : Nat) : Int) = ((n + (c.length + 1 + c2.length + 1) : Nat) : Int)
          omega
        · show rdL _ n (c ++ [((n + c.length + 1 + c2.length + 1 : Nat) : Int) * 16 + 12] ++ c2 ++ [13])
          have r13 := wrH_r (x := 13) w4
          rw [List.append_assoc, rdL_app, rdL_app]
          have e1 : (c ++ [((n + c.length + 1 + c2.length + 1 : Nat) : Int) * 16 + 12]).length = c.length + 1 := by rw [List.length_append]; rfl
          refine ⟨⟨rdL_c c n (fun j j1 j2 => ?_) u4, ?_, trivial⟩, ?_⟩
          · rw [up_i (by omega), f5.2 j (by omega), w2.2 j (by omega), f3.2 j (by omega)]
          · rw [up_s]
          · rw [e1, show n + (c.length + 1) = n + c.length + 1 by omega]
            exact rdL_c (c2 ++ [13]) (n + c.length + 1) (fun j j1 j2 => up_i (by omega)) r13
    · rw [bi_f z, if_neg (fun z => z rfl), if_neg z] at hd
      rw [if_neg z]
      exact CK_n hd u2
theorem e_lawClause {T : Nat → Int} {L : Nat} (d : Nat) {h : MH} {a n : Nat} (ha : a ≤ L) (t : TC T L h) (hn : h 5 1 = n) (hna : n ≤ a) :
    CK h n (cuF T L a) (Run (d + 23) 23 0 [vR 5, vU, vU, vU] [] (ca h a)) := by
  have l240 := t.1.1
  have l1 := sk_le T L a
  have hd := q23_0 (d + 22) (ca h a)
  rw [e_take t (d + 21) ha (by omega), cI_some] at hd
  unfold cuF
  by_cases z1 : sgF T L (skF T L a) 121
  · have l2 := sk_le T L (skF T L a + 1)
    rw [bi_t z1, if_neg (by omega), if_pos z1, e_take t (d + 21) z1.1 (by omega), cI_some] at hd
    rw [if_neg (fun z => z z1)]
    by_cases z2 : sgF T L (skF T L (skF T L a + 1)) 58
    · obtain ⟨p, hp⟩ : ∃ p, p = skF T L (skF T L (skF T L a + 1) + 1) := ⟨_, rfl⟩
      have l3 := sk_le T L (skF T L (skF T L a + 1) + 1)
      have pL : p ≤ L := by rw [hp]; exact sk_L z2.1
      rw [bi_t z2, if_pos (by omega), if_pos z2, e_nextT t (d + 22) z2.1, cI_some, ← hp] at hd
      rw [if_neg (fun z => z z2), ← hp]
      rw [← hp] at l3
      by_cases z3 : sgF T L p 33 ∨ sgF T L p 40
      · have hd2 : Run (d + 23) 23 0 [vR 5, vU, vU, vU] [] (ca h a) = Run (d + 23) 23 93 [vR 5, .inl (ngF T L p), .inl 0, vU] [] (ca h p) := by
          have h51 := q23_51 (d + 22) (.inl (ngF T L p)) rfl vU rfl vU rfl 0 (ca h p)
          rw [if_pos rfl, if_pos rfl] at h51
          rw [hd]
          by_cases z4 : sgF T L p 33
          · rw [if_pos ((ng_sg (by omega)).2 z4)]
            exact h51
          · have z5 : sgF T L p 40 := z3.resolve_left z4
            rw [if_neg (ng_no (by omega) z4), if_pos ((ng_sg (by omega)).2 z5)]
            exact h51
        rw [if_pos z3, hd2]
        have g := e_lvC T L 6 d (by omega) h p n pL t hn (by omega)
        exact e_clauseT d t rfl rfl (show n + 1 ≤ p by omega) g (lvC_P T L 6 p pL)
      · have n3 : ¬ sgF T L p 33 := fun z => z3 (Or.inl z)
        have n4 : ¬ sgF T L p 40 := fun z => z3 (Or.inr z)
        rw [if_neg (ng_no (by omega) n3), if_neg (ng_no (by omega) n4)] at hd
        rw [if_neg z3]
        have h51 := q23_51 (d + 22) (.inl (ngF T L p)) rfl vU rfl vU rfl 1 (ca h p)
        have g := e_lvS T L 6 (d + 3) (by omega) h p n pL t hn (by omega)
        have gp := lvS_P T L 6 p pL
        generalize lvS T L 6 p = o at g gp ⊢
        obtain ⟨q5, o⟩ := o
        cases o with
        | none =>
          obtain ⟨h2, u1, u2⟩ := CO_nI g
          have u1' : Run (d + 22) 24 0 [vR 5, .inl 0, vU, vU, vU, vU] [] (ca h p) = some (some (.inl 0), ca h2 q5) := u1
          rw [if_neg (by omega), u1', cI_some, if_neg (fun z => z rfl)] at h51
          exact CK_n (hd.trans h51) u2
        | some cv =>
          obtain ⟨c, v⟩ := cv
          obtain ⟨h2, u1, u2, u3, u4⟩ := CO_sI g
          have g2 : q5 ≤ L := gp.2.1
          have g3 : p + c.length ≤ q5 := (gp.2.2 c v rfl).1
          have l5 := sk_le T L q5
          have u1' : Run (d + 22) 24 0 [vR 5, .inl 0, vU, vU, vU, vU] [] (ca h p) = some (some (.inl 1), ca h2 q5) := u1
          rw [if_neg (by omega), u1', cI_some, if_pos (by omega), if_neg (by omega), e_nextT (u2.T t) (d + 22) g2, cI_some, e_comp, cI_some] at h51
          dsimp only
          rcases cg_c T L (skF T L q5) with q | ⟨q, q2⟩
          · rw [if_neg (fun z => z q), e_write0 (d + 22) h2 u3 (by omega) (by omega) (by omega), cV_some] at h51
            rw [if_pos q]
            refine CK_s (hd.trans h51) (u2.tr (wrH_fr h2 (n + c.length) 13) (by omega)) ?_ (wrH_r u4)
            rw [wrH_n]
            show _ = ((n + (c ++ [13]).length : Nat) : Int)
            rw [List.length_append]
            show ((n + c.length + 1 : Nat) : Int) = ((n + (c.length + 1) : Nat) : Int)
            omega
          · rw [if_pos (by omega)] at h51
            rw [if_neg (by omega)]
            have t2 := u2.T t
            have iu0 := e_lvU T L 6 d (by omega)
            have ff : frL h2 h2 n := frL.rf h2 n
            have g5 := e_unit1 (T := T) (d + 20) (x0 := 0) (a := skF T L q5) (v1 := v) (lvS_P T L 6) (e_lvS T L 6 (d + 1) (by omega)) (sk_L g2) t2 u3 u4 (by omega)
            have g6 := e_condG (d + 20) (x0 := 0) (lvU_P T L 6) iu0 t2 (show n ≤ p by omega) g5 (cm_P (lvS_P T L 6) (sk_L g2) (by omega))
            have g7 := e_clauseT d (z0 := .inl (ngF T L p)) (z2 := vU) t2 rfl rfl (show n + 1 ≤ p by omega) g6 (cdG_P (lvU_P T L 6) (cm_P (lvS_P T L 6) (sk_L g2) (by omega)))
            obtain ⟨h3, v1, v2, v3⟩ := g7
            exact ⟨h3, (hd.trans h51).trans v1, u2.tr v2 (Nat.le_refl n), v3⟩
    · rw [bi_f z2, if_neg (fun z => z rfl), if_neg z2] at hd
      rw [if_pos z2]
      exact CK_n hd (frL.rf h n)
  · rw [bi_f z1, if_pos rfl, if_neg z1] at hd
    rw [if_pos z1]
    exact CK_n hd (frL.rf h n)
