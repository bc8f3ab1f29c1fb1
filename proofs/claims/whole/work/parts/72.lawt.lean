/-! laws: the class reads the whole tape -/
def lcC : Nat → List CE → List Int
  | _, [] => []
  | n, e :: es => ceC n e ++ lcC (n + (ceC n e).length) es
def QO (L a : Nat) (o : Nat × Option CE) : Prop := a ≤ o.1 ∧ o.1 ≤ L ∧ ∀ e, o.2 = some e → a + 1 ≤ o.1 ∧ ∀ n, a + (ceC n e).length ≤ o.1
theorem QO_n {L a q : Nat} (h1 : a ≤ q) (h2 : q ≤ L) : QO L a (q, none) := ⟨h1, h2, fun c h => by cases h⟩
theorem QO_s {L a q : Nat} {e : CE} (h1 : a + 1 ≤ q) (h2 : q ≤ L) (h3 : ∀ n, a + (ceC n e).length ≤ q) : QO L a (q, some e) := ⟨by show a ≤ q; omega, h2, fun e' h => by
  have h' : e = e' := Option.some.inj h
  rw [← h']; exact ⟨h1, h3⟩⟩
theorem ce_l1 (n : Nat) (c : List Int) (v : VF) : (ceC n (none, (c, v))).length = c.length + 1 := by
  show (c ++ [13]).length = _
  rw [List.length_append]
  rfl
theorem ce_l2 (n : Nat) (cc c : List Int) (cv v : VF) : (ceC n (some (cc, cv), (c, v))).length = cc.length + c.length + 2 := by
  show (cc ++ [((n + cc.length + 1 + c.length + 1 : Nat) : Int) * 16 + 12] ++ c ++ [13]).length = _
  rw [List.length_append, List.length_append, List.length_append]
  show cc.length + 1 + c.length + 1 = _
  omega
theorem cuT_P {T : Nat → Int} {L a : Nat} {o : PR} (g : PO L (a + 2) o) : QO L a (cuT T L o) := by
  obtain ⟨q, o⟩ := o
  have g1 : a + 2 ≤ q := g.1
  have g2 : q ≤ L := g.2.1
  unfold cuT
  cases o with
  | none => exact QO_n (by omega) g2
  | some cv =>
    obtain ⟨c, v⟩ := cv
    have g3 : a + 2 + c.length ≤ q := (g.2.2 c v rfl).1
    have l1 := sk_le T L q
    dsimp only
    by_cases z : sgF T L (skF T L q) 63
    · rw [if_pos z]
      have sp := lvS_P T L 6 (skF T L q + 1) z.1
      generalize lvS T L 6 (skF T L q + 1) = o2 at sp ⊢
      obtain ⟨q6, o2⟩ := o2
      have s1 : skF T L q + 1 ≤ q6 := sp.1
      cases o2 with
      | none => exact QO_n (by omega) sp.2.1
      | some cv2 =>
        obtain ⟨c2, v2⟩ := cv2
        have s3 : skF T L q + 1 + c2.length ≤ q6 := (sp.2.2 c2 v2 rfl).1
        exact QO_s (by omega) sp.2.1 (fun n => by rw [ce_l2]; omega)
    · rw [if_neg z]; exact QO_n (by omega) (sk_L g2)
theorem cu_P {T : Nat → Int} {L a : Nat} (ha : a ≤ L) : QO L a (cuF T L a) := by
  have l1 := sk_le T L a
  unfold cuF
  by_cases z1 : sgF T L (skF T L a) 121
  · have l2 := sk_le T L (skF T L a + 1)
    rw [if_neg (fun z => z z1)]
    by_cases z2 : sgF T L (skF T L (skF T L a + 1)) 58
    · rw [if_neg (fun z => z z2)]
      obtain ⟨p, hp⟩ : ∃ p, p = skF T L (skF T L (skF T L a + 1) + 1) := ⟨_, rfl⟩
      have l3 := sk_le T L (skF T L (skF T L a + 1) + 1)
      have pL : p ≤ L := by rw [hp]; exact sk_L z2.1
      rw [← hp] at l3 ⊢
      by_cases z3 : sgF T L p 33 ∨ sgF T L p 40
      · rw [if_pos z3]
        exact cuT_P (PO_le (lvC_P T L 6 p pL) (by omega))
      · rw [if_neg z3]
        have gp := lvS_P T L 6 p pL
        generalize lvS T L 6 p = o at gp ⊢
        obtain ⟨q5, o⟩ := o
        have g1 : p ≤ q5 := gp.1
        have g2 : q5 ≤ L := gp.2.1
        cases o with
        | none => exact QO_n (by omega) g2
        | some cv =>
          obtain ⟨c, v⟩ := cv
          have g3 : p + c.length ≤ q5 := (gp.2.2 c v rfl).1
          have l5 := sk_le T L q5
          dsimp only
          by_cases q : cgF T L (skF T L q5) = -1
          · rw [if_pos q]
            exact QO_s (by omega) (sk_L g2) (fun n => by rw [ce_l1]; omega)
          · rw [if_neg q]
            exact cuT_P (PO_le (cdG_P (lvU_P T L 6) (cm_P (b := p) (lvS_P T L 6) (sk_L g2) (by omega))) (by omega))
    · rw [if_pos z2]; exact QO_n (by omega) (sk_L z1.1)
  · rw [if_pos z1]; exact QO_n l1 (sk_L ha)
theorem e_lawL {T : Nat → Int} {L : Nat} (d : Nat) : ∀ (r i a n : Nat) (h : MH), i + r = 241 → 241 ≤ a + r → a ≤ L → TC T L h → h 5 1 = n → n ≤ a →
    ∃ h2 a2, Run (d + 24) 22 15 [vR 5, .inl (i : Int)] [] (ca h a) = some (some (.inl (flO (lwF T L r a))), ca h2 a2) ∧ frL h h2 n ∧ ∀ es, (lwF T L r a).2 = some es → h2 5 1 = ((n + (lcC n es).length : Nat) : Int) ∧ rdL (h2 22) n (lcC n es) ∧ n + (lcC n es).length ≤ 240 := by
  intro r
  induction r with
  | zero =>
    intro i a n h hi hr ha t hn hna
    have := t.1.1
    omega
  | succ r ih =>
    intro i a n h hi hr ha t hn hna
    have l240 := t.1.1
    obtain ⟨h1, u1, u2, u3⟩ := e_lawClause d ha t hn hna
    have cl := cu_P (T := T) (L := L) ha
    have hd := q22_15 (d + 23) (i : Int) (ca h a)
    rw [if_neg (by omega), u1, cI_some] at hd
    unfold lwF
    generalize cuF T L a = o at u3 cl hd ⊢
    obtain ⟨q, o⟩ := o
    have qL : q ≤ L := cl.2.1
    have qa : a ≤ q := cl.1
    cases o with
    | none =>
      have e : bi ((q, (none : Option CE)).2.isSome = true) = 0 := rfl
      rw [e, if_neg (fun z => z rfl), ca_at] at hd
      exact ⟨h1, _, hd, u2, fun S2 hS => by cases hS⟩
    | some e0 =>
      have e : bi ((q, some e0).2.isSome = true) = 1 := rfl
      obtain ⟨m1, m2⟩ := u3 e0 rfl
      obtain ⟨c1, c2⟩ := cl.2.2 e0 rfl
      have c2' : a + (ceC n e0).length ≤ q := c2 n
      have c1' : a + 1 ≤ q := c1
      have t1 := u2.T t
      have sq := sk_le T L q
      rw [e, if_pos (by omega), e_nextT t1 (d + 23) qL, cI_some] at hd
      dsimp only
      by_cases q1 : skF T L q < L
      · rw [if_neg (fun z => z q1)]
        rw [if_pos (fun z => (ng_end t.2).1 z q1), e_take t1 (d + 22) (sk_L qL) (by omega), sk_sk qL, cI_some] at hd
        by_cases q2 : T (skF T L q) = 59
        · have sg : sgF T L (skF T L q) 59 := ⟨q1, q2⟩
          rw [bi_t sg, if_pos sg, if_pos (by omega), wI_ok (by omega) (by omega)] at hd
          rw [if_pos q2]
          obtain ⟨h2, a2, v1, v2, v3⟩ := ih (i + 1) (skF T L q + 1) (n + (ceC n e0).length) h1 (by omega) (by omega) q1 t1 m1 (by omega)
          generalize lwF T L r (skF T L q + 1) = o2 at v1 v3 ⊢
          obtain ⟨q6, o2⟩ := o2
          have fr := u2.tr v2 (by omega)
          cases o2 with
          | none => exact ⟨h2, a2, hd.trans v1, fr, fun S2 hS => by cases hS⟩
          | some es0 =>
            refine ⟨h2, a2, hd.trans v1, fr, fun es hS => ?_⟩
            have := Option.some.inj hS
            rw [← this]
            obtain ⟨w1, w2, w3⟩ := v3 es0 rfl
            have el : (lcC n (e0 :: es0)).length = (ceC n e0).length + (lcC (n + (ceC n e0).length) es0).length := by
              show (ceC n e0 ++ lcC (n + (ceC n e0).length) es0).length = _
              rw [List.length_append]
            refine ⟨by rw [w1, el]; omega, ?_, by rw [el]; omega⟩
            show rdL (h2 22) n (ceC n e0 ++ lcC (n + (ceC n e0).length) es0)
            rw [rdL_app]
            exact ⟨rdL_c _ n (fun j j1 j2 => v2.2 j j2) m2, w2⟩
        · have sg : ¬ sgF T L (skF T L q) 59 := fun z => q2 z.2
          rw [bi_f sg, if_neg sg, if_neg (fun z => z rfl), ca_at] at hd
          rw [if_neg q2]
          exact ⟨h1, _, hd, u2, fun S2 hS => by cases hS⟩
      · rw [if_neg (fun z => z ((ng_end t.2).2 q1))] at hd
        rw [if_pos q1]
        refine ⟨h1, _, hd, u2, fun es hS => ?_⟩
        have := Option.some.inj hS
        rw [← this]
        have el : lcC n [e0] = ceC n e0 := List.append_nil _
        rw [el]
        exact ⟨m1, m2, by omega⟩
theorem e_lawTape {T : Nat → Int} {L : Nat} {h : MH} (t : TC T L h) (d : Nat) :
    ∃ h2 a2, Run (d + 24) 22 0 [vR 5, vU] [] h = some (some (.inl (flO (lwF T L 241 0))), ca h2 a2) ∧ frL h h2 0 ∧ ∀ es, (lwF T L 241 0).2 = some es → h2 5 1 = (((lcC 0 es).length : Nat) : Int) ∧ rdL (h2 22) 0 (lcC 0 es) ∧ (lcC 0 es).length ≤ 240 := by
  have hd := q22_0 (d + 23) h
  have e0 : up (up h 1 2 0) 5 1 0 = ca (up h 5 1 0) 0 := ca_up h 0 0 (by omega)
  obtain ⟨h2, a2, u1, u2, u3⟩ := e_lawL d 241 0 0 0 (up h 5 1 0) (by omega) (by omega) (by omega) (t.up (by omega) (by omega)) (up_s _ _ _ _) (by omega)
  rw [e0] at hd
  refine ⟨h2, a2, hd.trans u1, ⟨fun c c1 c2 => by rw [u2.1 c c1 c2, up_ne c1], fun j hj => by omega⟩, fun es hS => ?_⟩
  have := u3 es hS
  rw [Nat.zero_add] at this
  exact this
