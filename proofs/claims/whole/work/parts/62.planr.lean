/-! reading a plan -/
def kdF (T : Nat → Int) (L p : Nat) : Int := if sgF T L p 115 then 0 else if sgF T L p 104 then 1 else if sgF T L p 119 then 2 else if sgF T L p 110 then 3 else -1
theorem kd_cases (T : Nat → Int) (L p : Nat) : kdF T L p = -1 ∨ (kdF T L p = 0 ∨ kdF T L p = 1 ∨ kdF T L p = 2 ∨ kdF T L p = 3) ∧ p < L := by
  unfold kdF
  by_cases q1 : sgF T L p 115
  · rw [if_pos q1]; exact Or.inr ⟨by omega, q1.1⟩
  · rw [if_neg q1]
    by_cases q2 : sgF T L p 104
    · rw [if_pos q2]; exact Or.inr ⟨by omega, q2.1⟩
    · rw [if_neg q2]
      by_cases q3 : sgF T L p 119
      · rw [if_pos q3]; exact Or.inr ⟨by omega, q3.1⟩
      · rw [if_neg q3]
        by_cases q4 : sgF T L p 110
        · rw [if_pos q4]; exact Or.inr ⟨by omega, q4.1⟩
        · rw [if_neg q4]; exact Or.inl rfl
/-- one step: where it stays, and the step -/
def stpF (T : Nat → Int) (L a : Nat) : Nat × Option (Int × Int × Int × Int) :=
  if kdF T L (skF T L a) = -1 then (skF T L a, none)
  else if ¬ dgP T L (skF T L (skF T L a + 1)) 9 then (skF T L (skF T L a + 1), none)
  else if kdF T L (skF T L a) = 1 then (skF T L (skF T L a + 1) + 1, some (1, T (skF T L (skF T L a + 1)) - 48, -1, -1))
  else if ¬ dgP T L (skF T L (skF T L (skF T L a + 1) + 1)) (if kdF T L (skF T L a) = 3 then 9 else 1) then (skF T L (skF T L (skF T L a + 1) + 1), none)
  else if ¬ kdF T L (skF T L a) = 0 then (skF T L (skF T L (skF T L a + 1) + 1) + 1, some (kdF T L (skF T L a), T (skF T L (skF T L a + 1)) - 48, T (skF T L (skF T L (skF T L a + 1) + 1)) - 48, -1))
  else if ¬ dgP T L (skF T L (skF T L (skF T L (skF T L a + 1) + 1) + 1)) 9 then (skF T L (skF T L (skF T L (skF T L a + 1) + 1) + 1), none)
  else if ¬ dgP T L (skF T L (skF T L (skF T L (skF T L (skF T L a + 1) + 1) + 1) + 1)) 9 then (skF T L (skF T L (skF T L (skF T L (skF T L a + 1) + 1) + 1) + 1), none)
  else (skF T L (skF T L (skF T L (skF T L (skF T L a + 1) + 1) + 1) + 1) + 1, some (0, T (skF T L (skF T L a + 1)) - 48, T (skF T L (skF T L (skF T L a + 1) + 1)) - 48, 10 * (T (skF T L (skF T L (skF T L (skF T L a + 1) + 1) + 1)) - 48) + (T (skF T L (skF T L (skF T L (skF T L (skF T L a + 1) + 1) + 1) + 1)) - 48)))
def rwE (D : Nat → Int) (s : Nat) (w : Int × Int × Int × Int) : Prop := D s = w.1 ∧ D (s + 1) = w.2.1 ∧ D (s + 2) = w.2.2.1 ∧ D (s + 3) = w.2.2.2
def stC (c : Nat) (h h2 : MH) (s : Nat) : Prop := (∀ a, a ≠ c → h2 a = h a) ∧ ∀ j, (j < s ∨ s + 4 ≤ j) → h2 c j = h c j
theorem stC.tr {c s : Nat} {h h1 h2 : MH} (e : stC c h h1 s) (f : stC c h1 h2 s) : stC c h h2 s := ⟨fun a q => by rw [f.1 a q, e.1 a q], fun j q => by rw [f.2 j q, e.2 j q]⟩
theorem stC.up {c s j : Nat} {h : MH} {v : Int} (q : s ≤ j ∧ j < s + 4) : stC c h (up h c j v) s := ⟨fun a q2 => up_ne q2, fun j2 q2 => up_i (by omega)⟩
theorem ca_up (h : MH) (a : Nat) {c j : Nat} (v : Int) (e : c ≠ 1) : up (ca h a) c j v = ca (up h c j v) a := up_comm _ _ _ (fun z => e z.1.symm)
theorem TC.up {T : Nat → Int} {L : Nat} {h : MH} (t : TC T L h) {c j : Nat} {v : Int} (e1 : c ≠ 1) (e2 : c ≠ 15) : TC T L (up h c j v) := t.mv (by rw [up_a (fun z => e1 z.symm)]) (by rw [up_ne (fun z => e2 z.symm)])
theorem e_readFirst {T : Nat → Int} {L : Nat} {h : MH} (t : TC T L h) (d : Nat) {a s : Nat} (ha : a ≤ L) (hs : s + 4 ≤ 64) (k : Int) : ∃ h2, Run (d + 2) 41 0 [vR 7, .inl (s : Int), .inl k] [] (ca h a) = some (some (.inl (bi (dgP T L (skF T L a) 9))), ca h2 (if dgP T L (skF T L a) 9 then skF T L a + 1 else skF T L a)) ∧ stC 37 h h2 s ∧ (dgP T L (skF T L a) 9 → rwE (h2 37) s (k, T (skF T L a) - 48, -1, -1)) := by
  refine ⟨up (up (up (up h 37 s k) 37 (s + 1) (if dgP T L (skF T L a) 9 then T (skF T L a) - 48 else -1)) 37 (s + 2) (-1)) 37 (s + 3) (-1), ?_, ?_, ?_⟩
  · rw [q41_0, if_pos (by omega), show ((s : Nat) : Int).toNat = s by omega, ca_up h a k (by omega), e_digit (t.up (by omega) (by omega)) d ha (by omega), cI_some, wI_ok (x := (s : Int) + 1) (by omega) (by omega), wI_ok (x := (s : Int) + 2) (by omega) (by omega), wI_ok (x := (s : Int) + 3) (by omega) (by omega), if_pos (by omega), if_pos (by omega), if_pos (by omega), if_pos (by omega), show ((s : Int) + 1).toNat = s + 1 by omega, show ((s : Int) + 2).toNat = s + 2 by omega, show ((s : Int) + 3).toNat = s + 3 by omega, ca_up _ _ _ (by omega), ca_up _ _ _ (by omega), ca_up _ _ _ (by omega), ca_ne _ _ (by omega), up_i (by omega), up_i (by omega), up_s]
    by_cases q : dgP T L (skF T L a) 9
    · rw [if_pos q, if_pos q, if_neg (by obtain ⟨q1, q2, q3⟩ := q; omega), bi_t q]
    · rw [if_neg q, if_neg q, if_pos rfl, bi_f q]
  · exact (((stC.up (by omega)).tr (stC.up (by omega))).tr (stC.up (by omega))).tr (stC.up (by omega))
  · intro q
    rw [if_pos q]
    refine ⟨?_, ?_, ?_, ?_⟩
    · rw [up_i (by omega), up_i (by omega), up_i (by omega), up_s]
    · rw [up_i (by omega), up_i (by omega), up_s]
    · rw [up_i (by omega), up_s]
    · rw [up_s]
theorem stC.T {T : Nat → Int} {L c s : Nat} {h h2 : MH} (e : stC c h h2 s) (t : TC T L h) (e1 : c ≠ 1) (e2 : c ≠ 15) : TC T L h2 := t.mv (by rw [e.1 _ (fun z => e1 z.symm)]) (e.1 _ (fun z => e2 z.symm))
theorem e_readDigits {T : Nat → Int} {L : Nat} {h : MH} (t : TC T L h) (d : Nat) {a s : Nat} (ha : a ≤ L) (hs : s + 4 ≤ 64) (k m : Int) (hm : 0 ≤ m ∧ m ≤ 9) : ∃ h2, Run (d + 3) 40 0 [vR 7, .inl (s : Int), .inl k, .inl m] [] (ca h a) = some (some (.inl (bi (dgP T L (skF T L a) 9 ∧ dgP T L (skF T L (skF T L a + 1)) m))), ca h2 (if dgP T L (skF T L a) 9 then if dgP T L (skF T L (skF T L a + 1)) m then skF T L (skF T L a + 1) + 1 else skF T L (skF T L a + 1) else skF T L a)) ∧ stC 37 h h2 s ∧ (dgP T L (skF T L a) 9 ∧ dgP T L (skF T L (skF T L a + 1)) m → rwE (h2 37) s (k, T (skF T L a) - 48, T (skF T L (skF T L a + 1)) - 48, -1)) := by
  obtain ⟨h1, r1, r2, r3⟩ := e_readFirst t (d) (a := a) (s := s) ha hs k
  have r1' : Run (d + 2) 41 0 [vR 7, .inl (s : Int), .inl k] [] (ca h a) = _ := r1
  by_cases q : dgP T L (skF T L a) 9
  · have t1 := r2.T t (by omega) (by omega)
    have e3 := r3 q
    refine ⟨up h1 37 (s + 2) (if dgP T L (skF T L (skF T L a + 1)) m then T (skF T L (skF T L a + 1)) - 48 else -1), ?_, r2.tr (stC.up (by omega)), fun q2 => ?_⟩
    · rw [q40_0, r1', cI_some, bi_t q, if_pos (by omega), if_pos q, if_pos q, e_digit t1 (d + 1) (by have := q.1; omega) hm, cI_some, wI_ok (x := (s : Int) + 2) (by omega) (by omega), if_pos (by omega), if_pos (by omega), show ((s : Int) + 2).toNat = s + 2 by omega, ca_up _ _ _ (by omega), ca_ne _ _ (by omega), up_s]
      by_cases q2 : dgP T L (skF T L (skF T L a + 1)) m
      · rw [if_pos q2, if_pos q2, if_neg (by obtain ⟨z1, z2, z3⟩ := q2; omega), bi_t ⟨q, q2⟩]
      · rw [if_neg q2, if_neg q2, if_pos rfl, bi_f (fun z => q2 z.2)]
    · rw [if_pos q2.2]
      obtain ⟨z1, z2, z3, z4⟩ := e3
      refine ⟨?_, ?_, ?_, ?_⟩
      · rw [up_i (by omega)]; exact z1
      · rw [up_i (by omega)]; exact z2
      · rw [up_s]
      · rw [up_i (by omega)]; exact z4
  · refine ⟨h1, ?_, r2, fun q2 => absurd q2.1 q⟩
    rw [q40_0, r1', cI_some, bi_f q, if_neg (by omega), if_neg q, if_neg q, bi_f (fun z => q z.1)]
theorem e_readPowder {T : Nat → Int} {L : Nat} {h : MH} (t : TC T L h) (d : Nat) {a s : Nat} (ha : a ≤ L) (hs : s + 4 ≤ 64) : ∃ h2, Run (d + 2) 43 0 [vR 7, .inl (s : Int), vU, vU] [] (ca h a) = some (some (.inl (bi (dgP T L (skF T L a) 9 ∧ dgP T L (skF T L (skF T L a + 1)) 9))), ca h2 (if dgP T L (skF T L a) 9 then if dgP T L (skF T L (skF T L a + 1)) 9 then skF T L (skF T L a + 1) + 1 else skF T L (skF T L a + 1) else skF T L a)) ∧ stC 37 h h2 s ∧ (∀ j, j ≠ s + 3 → h2 37 j = h 37 j) ∧ (dgP T L (skF T L a) 9 ∧ dgP T L (skF T L (skF T L a + 1)) 9 → h2 37 (s + 3) = 10 * (T (skF T L a) - 48) + (T (skF T L (skF T L a + 1)) - 48)) := by
  by_cases q : dgP T L (skF T L a) 9
  · have q0 := q.1
    by_cases q2 : dgP T L (skF T L (skF T L a + 1)) 9
    · refine ⟨up h 37 (s + 3) (10 * (T (skF T L a) - 48) + (T (skF T L (skF T L a + 1)) - 48)), ?_, stC.up (by omega), fun j hj => up_i hj, fun _ => up_s _ _ _ _⟩
      obtain ⟨z1, z2, z3⟩ := id q2
      rw [q43_0, e_digit t d (m := 9) ha (by omega), cI_some, if_pos q, if_pos q, if_pos q, if_pos (by have := q.2; omega), e_digit t d (m := 9) (by omega) (by omega), cI_some, if_pos q2, if_pos q2, wI_ok (x := (s : Int) + 3) (by omega) (by omega), if_pos (by omega), if_neg (by omega), show ((s : Int) + 3).toNat = s + 3 by omega, wI_ok (x := 10 * (T (skF T L a) - 48)) (by have := q.2; omega) (by have := q.2; omega), wI_ok (by have := q.2; omega) (by have := q.2; omega), ca_up _ _ _ (by omega), bi_t ⟨q, q2⟩]
    · refine ⟨up h 37 (s + 3) (10 * (T (skF T L a) - 48) + -1), ?_, stC.up (by omega), fun j hj => up_i hj, fun z => absurd z.2 q2⟩
      rw [q43_0, e_digit t d (m := 9) ha (by omega), cI_some, if_pos q, if_pos q, if_pos q, if_pos (by have := q.2; omega), e_digit t d (m := 9) (by omega) (by omega), cI_some, if_neg q2, if_neg q2, wI_ok (x := (s : Int) + 3) (by omega) (by omega), if_pos (by omega), if_pos rfl, show ((s : Int) + 3).toNat = s + 3 by omega, wI_ok (x := 10 * (T (skF T L a) - 48)) (by have := q.2; omega) (by have := q.2; omega), wI_ok (by have := q.2; omega) (by have := q.2; omega), ca_up _ _ _ (by omega), bi_f (fun z => q2 z.2)]
  · refine ⟨h, ?_, ⟨fun _ _ => rfl, fun _ _ => rfl⟩, fun _ _ => rfl, fun z => absurd z.1 q⟩
    rw [q43_0, e_digit t d (m := 9) ha (by omega), cI_some, if_neg q, if_neg q, if_neg q, if_neg (fun z => z rfl), bi_f (fun z => q z.1)]
theorem e_readStep {T : Nat → Int} {L : Nat} {h : MH} (t : TC T L h) (d : Nat) {a s : Nat} (ha : a ≤ L) (hs : s + 4 ≤ 64) : ∃ h2, Run (d + 4) 39 0 [vR 7, .inl (s : Int)] [] (ca h a) = some (some (.inl (bi ((stpF T L a).2.isSome = true))), ca h2 (stpF T L a).1) ∧ stC 37 h h2 s ∧ (∀ w, (stpF T L a).2 = some w → rwE (h2 37) s w) := by
  obtain ⟨p, hp⟩ : ∃ p, p = skF T L a := ⟨_, rfl⟩
  have pL : p ≤ L := by rw [hp]; exact sk_L ha
  have ps : skF T L p = p := by rw [hp]; exact sk_sk ha
  have tk0 : ∀ x : Int, x ≠ 0 → Run (d + 3) 21 0 [vR 1, .inl x] [] (ca h a) = some (some (.inl (bi (sgF T L p x))), ca h (if sgF T L p x then p + 1 else p)) := fun x hx => by rw [hp]; exact e_take t (d + 2) ha hx
  have tk : ∀ x : Int, x ≠ 0 → Run (d + 3) 21 0 [vR 1, .inl x] [] (ca h p) = some (some (.inl (bi (sgF T L p x))), ca h (if sgF T L p x then p + 1 else p)) := fun x hx => by
    have := e_take t (d + 2) pL hx
    rw [ps] at this
    exact this
  have bb : ∀ (c : Prop) [Decidable c], bi c = 0 ∨ bi c = 1 := fun c _ => by unfold bi; split <;> simp
  unfold stpF
  rw [← hp]
  by_cases q1 : sgF T L p 115
  · have k0 : kdF T L p = 0 := by unfold kdF; rw [if_pos q1]
    have p1 : p + 1 ≤ L := q1.1
    obtain ⟨h1, r1, r2, r3⟩ := e_readDigits t d (a := p + 1) (s := s) p1 hs 0 1 (by omega)
    rw [k0, if_neg (by omega), if_neg (c := (0 : Int) = 1) (by omega), if_neg (c := (0 : Int) = 3) (by omega), if_neg (c := ¬ (0 : Int) = 0) (by omega)]
    by_cases d1 : dgP T L (skF T L (p + 1)) 9
    · rw [if_neg (fun z => z d1)]
      by_cases d2 : dgP T L (skF T L (skF T L (p + 1) + 1)) 1
      · rw [if_neg (fun z => z d2)]
        have l2 : skF T L (skF T L (p + 1) + 1) + 1 ≤ L := d2.1
        rw [bi_t ⟨d1, d2⟩, if_pos d1, if_pos d2] at r1
        obtain ⟨h3, u1, u2, u3, u4⟩ := e_readPowder (r2.T t (by omega) (by omega)) (d + 1) (a := skF T L (skF T L (p + 1) + 1) + 1) (s := s) l2 hs
        refine ⟨h3, ?_, r2.tr u2, ?_⟩
        · rw [q39_0, tk0 115 (by omega), cI_some, bi_t q1, if_neg (by omega), if_pos q1]
          refine (congrArg (fun t => cI t _) r1).trans ?_
          rw [cI_some, if_neg (by omega)]
          refine (congrArg (fun t => cI t _) u1).trans ?_
          rw [cI_some]
          by_cases d3 : dgP T L (skF T L (skF T L (skF T L (p + 1) + 1) + 1)) 9
          · rw [if_pos d3, if_neg (c := ¬ dgP T L (skF T L (skF T L (skF T L (p + 1) + 1) + 1)) 9) (fun z => z d3)]
            by_cases d4 : dgP T L (skF T L (skF T L (skF T L (skF T L (p + 1) + 1) + 1) + 1)) 9
            · rw [if_pos d4, if_neg (c := ¬ dgP T L (skF T L (skF T L (skF T L (skF T L (p + 1) + 1) + 1) + 1)) 9) (fun z => z d4), bi_t (c := dgP T L (skF T L (skF T L (skF T L (p + 1) + 1) + 1)) 9 ∧ dgP T L (skF T L (skF T L (skF T L (skF T L (p + 1) + 1) + 1) + 1)) 9) ⟨d3, d4⟩, if_neg (by omega)]
              rfl
            · rw [if_neg d4, if_pos (c := ¬ dgP T L (skF T L (skF T L (skF T L (skF T L (p + 1) + 1) + 1) + 1)) 9) d4, bi_f (c := dgP T L (skF T L (skF T L (skF T L (p + 1) + 1) + 1)) 9 ∧ dgP T L (skF T L (skF T L (skF T L (skF T L (p + 1) + 1) + 1) + 1)) 9) (fun z => d4 z.2), if_pos rfl]
              rfl
          · rw [if_neg d3, if_pos (c := ¬ dgP T L (skF T L (skF T L (skF T L (p + 1) + 1) + 1)) 9) d3, bi_f (c := dgP T L (skF T L (skF T L (skF T L (p + 1) + 1) + 1)) 9 ∧ dgP T L (skF T L (skF T L (skF T L (skF T L (p + 1) + 1) + 1) + 1)) 9) (fun z => d3 z.1), if_pos rfl]
            rfl
        · intro w hw
          by_cases d3 : dgP T L (skF T L (skF T L (skF T L (p + 1) + 1) + 1)) 9
          · rw [if_neg (fun z => z d3)] at hw
            by_cases d4 : dgP T L (skF T L (skF T L (skF T L (skF T L (p + 1) + 1) + 1) + 1)) 9
            · rw [if_neg (fun z => z d4)] at hw
              have hw2 : (0, T (skF T L (p + 1)) - 48, T (skF T L (skF T L (p + 1) + 1)) - 48, 10 * (T (skF T L (skF T L (skF T L (p + 1) + 1) + 1)) - 48) + (T (skF T L (skF T L (skF T L (skF T L (p + 1) + 1) + 1) + 1)) - 48)) = w := Option.some.inj hw
              obtain ⟨z1, z2, z3, z4⟩ := r3 ⟨d1, d2⟩
              rw [← hw2]
              exact ⟨by rw [u3 _ (by omega)]; exact z1, by rw [u3 _ (by omega)]; exact z2, by rw [u3 _ (by omega)]; exact z3, u4 ⟨d3, d4⟩⟩
            · rw [if_pos d4] at hw; cases hw
          · rw [if_pos d3] at hw; cases hw
      · rw [if_pos d2]
        rw [bi_f (fun z => d2 z.2), if_pos d1, if_neg d2] at r1
        refine ⟨h1, ?_, r2, fun w hw => by cases hw⟩
        rw [q39_0, tk0 115 (by omega), cI_some, bi_t q1, if_neg (by omega), if_pos q1]
        refine (congrArg (fun t => cI t _) r1).trans ?_
        rw [cI_some, if_pos rfl]
        rfl
    · rw [if_pos d1]
      rw [bi_f (fun z => d1 z.1), if_neg d1] at r1
      refine ⟨h1, ?_, r2, fun w hw => by cases hw⟩
      rw [q39_0, tk0 115 (by omega), cI_some, bi_t q1, if_neg (by omega), if_pos q1]
      refine (congrArg (fun t => cI t _) r1).trans ?_
      rw [cI_some, if_pos rfl]
      rfl
  · by_cases q2 : sgF T L p 104
    · have k0 : kdF T L p = 1 := by unfold kdF; rw [if_neg q1, if_pos q2]
      have p1 : p + 1 ≤ L := q2.1
      obtain ⟨h1, r1, r2, r3⟩ := e_readFirst t (d + 1) (a := p + 1) (s := s) p1 hs 1
      rw [k0, if_neg (by omega), if_pos (c := (1 : Int) = 1) rfl]
      refine ⟨h1, ?_, r2, ?_⟩
      · rw [q39_0, tk0 115 (by omega), cI_some, bi_f q1, if_pos rfl, if_neg q1, tk 104 (by omega), cI_some, bi_t q2, if_neg (by omega), if_pos q2]
        refine (congrArg (fun t => cI t _) r1).trans ?_
        rw [cI_some, if_pos (bb _)]
        by_cases d1 : dgP T L (skF T L (p + 1)) 9
        · rw [if_pos d1, if_neg (fun z => z d1), bi_t d1]
          rfl
        · rw [if_neg d1, if_pos d1, bi_f d1]
          rfl
      · intro w hw
        by_cases d1 : dgP T L (skF T L (p + 1)) 9
        · rw [if_neg (fun z => z d1)] at hw
          have hw2 := Option.some.inj hw
          rw [← hw2]
          exact r3 d1
        · rw [if_pos d1] at hw; cases hw
    · have both : ∀ (k m : Int), kdF T L p = k → (k = 2 ∧ m = 1 ∨ k = 3 ∧ m = 9) → p + 1 ≤ L → (∀ hX, (∃ v, Run (d + 3) 40 0 [vR 7, .inl (s : Int), .inl k, .inl m] [] (ca h (p + 1)) = some (some (.inl v), hX) ∧ (v = 0 ∨ v = 1) ∧ ∀ z, z = v → Run (d + 4) 39 0 [vR 7, .inl (s : Int)] [] (ca h a) = some (some (.inl z), hX)) → True) → ∀ (go : ∀ v hX, (v = 0 ∨ v = 1) → Run (d + 3) 40 0 [vR 7, .inl (s : Int), .inl k, .inl m] [] (ca h (p + 1)) = some (some (.inl v), hX) → Run (d + 4) 39 0 [vR 7, .inl (s : Int)] [] (ca h a) = some (some (.inl v), hX)), ∃ h2, Run (d + 4) 39 0 [vR 7, .inl (s : Int)] [] (ca h a) = some (some (.inl (bi ((stpF T L a).2.isSome = true))), ca h2 (stpF T L a).1) ∧ stC 37 h h2 s ∧ (∀ w, (stpF T L a).2 = some w → rwE (h2 37) s w) := by
        intro k m hk hkm p1 _ go
        obtain ⟨h1, r1, r2, r3⟩ := e_readDigits t d (a := p + 1) (s := s) p1 hs k m (by omega)
        have r0 := go _ _ (bb _) r1
        refine ⟨h1, ?_, r2, ?_⟩
        · rw [r0]
          unfold stpF
          rw [← hp, hk, if_neg (c := k = -1) (by omega), if_neg (c := k = 1) (by omega), if_pos (c := ¬ k = 0) (by omega), show (if k = 3 then (9 : Int) else 1) = m by split <;> omega]
          by_cases d1 : dgP T L (skF T L (p + 1)) 9
          · rw [if_pos d1, if_neg (c := ¬ dgP T L (skF T L (p + 1)) 9) (fun z => z d1)]
            by_cases d2 : dgP T L (skF T L (skF T L (p + 1) + 1)) m
            · rw [if_pos d2, if_neg (c := ¬ dgP T L (skF T L (skF T L (p + 1) + 1)) m) (fun z => z d2), bi_t (c := dgP T L (skF T L (p + 1)) 9 ∧ dgP T L (skF T L (skF T L (p + 1) + 1)) m) ⟨d1, d2⟩]
              rfl
            · rw [if_neg d2, if_pos (c := ¬ dgP T L (skF T L (skF T L (p + 1) + 1)) m) d2, bi_f (c := dgP T L (skF T L (p + 1)) 9 ∧ dgP T L (skF T L (skF T L (p + 1) + 1)) m) (fun z => d2 z.2)]
              rfl
          · rw [if_neg d1, if_pos (c := ¬ dgP T L (skF T L (p + 1)) 9) d1, bi_f (c := dgP T L (skF T L (p + 1)) 9 ∧ dgP T L (skF T L (skF T L (p + 1) + 1)) m) (fun z => d1 z.1)]
            rfl
        · intro w hw
          unfold stpF at hw
          rw [← hp, hk, if_neg (c := k = -1) (by omega), if_neg (c := k = 1) (by omega), if_pos (c := ¬ k = 0) (by omega), show (if k = 3 then (9 : Int) else 1) = m by split <;> omega] at hw
          by_cases d1 : dgP T L (skF T L (p + 1)) 9
          · rw [if_neg (fun z => z d1)] at hw
            by_cases d2 : dgP T L (skF T L (skF T L (p + 1) + 1)) m
            · rw [if_neg (fun z => z d2)] at hw
              have hw2 := Option.some.inj hw
              rw [← hw2]
              exact r3 ⟨d1, d2⟩
            · rw [if_pos d2] at hw; cases hw
          · rw [if_pos d1] at hw; cases hw
      have base := q39_0 (d + 3) (s : Int) (ca h a)
      rw [tk0 115 (by omega), cI_some, bi_f q1, if_pos rfl, if_neg q1, tk 104 (by omega), cI_some, bi_f q2, if_pos rfl, if_neg q2, tk 119 (by omega), cI_some] at base
      by_cases q3 : sgF T L p 119
      · have := both 2 1 (by unfold kdF; rw [if_neg q1, if_neg q2, if_pos q3]) (Or.inl ⟨rfl, rfl⟩) q3.1 (fun _ _ => trivial) (fun v hX hv hr => by
          rw [base, bi_t q3, if_neg (by omega), if_pos q3]
          refine (congrArg (fun t => cI t _) hr).trans ?_
          rw [cI_some, if_pos hv])
        unfold stpF at this
        rw [← hp] at this
        exact this
      · by_cases q4 : sgF T L p 110
        · have := both 3 9 (by unfold kdF; rw [if_neg q1, if_neg q2, if_neg q3, if_pos q4]) (Or.inr ⟨rfl, rfl⟩) q4.1 (fun _ _ => trivial) (fun v hX hv hr => by
            rw [base, bi_f q3, if_pos rfl, if_neg q3, tk 110 (by omega), cI_some, bi_t q4, if_neg (by omega), if_pos q4]
            refine (congrArg (fun t => cI t _) hr).trans ?_
            rw [cI_some]
            rcases hv with hv | hv
            · rw [hv, if_pos rfl]
            · rw [hv, if_neg (by omega)])
          unfold stpF at this
          rw [← hp] at this
          exact this
        · have k0 : kdF T L p = -1 := by unfold kdF; rw [if_neg q1, if_neg q2, if_neg q3, if_neg q4]
          rw [k0, if_pos (c := (-1 : Int) = -1) rfl]
          refine ⟨h, ?_, ⟨fun _ _ => rfl, fun _ _ => rfl⟩, fun w hw => by cases hw⟩
          rw [base, bi_f q3, if_pos rfl, if_neg q3, tk 110 (by omega), cI_some, bi_f q4, if_pos rfl, if_neg q4]
          rfl
/-! the reference's step -/
theorem mg_up (G : MH) (a : Nat) (f : Int) {c j : Nat} (v : Int) (e : c ≠ 97) : up (mg G a f) c j v = mg (up G c j v) a f := by
  unfold mg
  rw [up_comm _ _ _ (fun z => e z.1.symm), up_comm _ _ _ (fun z => e z.1.symm)]
theorem RT.up {T : Nat → Int} {L : Nat} {G : MH} (r : RT T L G) {c j : Nat} {v : Int} (e1 : c ≠ 97) (e2 : c ≠ 98) (e3 : c ≠ 99) : RT T L (up G c j v) := r.mv (up_a (fun z => e1 z.symm)) (up_a (fun z => e1 z.symm)) (up_a (fun z => e1 z.symm)) (up_ne (fun z => e2 z.symm)) (up_ne (fun z => e3 z.symm))
theorem stC.R {T : Nat → Int} {L c s : Nat} {h h2 : MH} (e : stC c h h2 s) (r : RT T L h) (e1 : c ≠ 97) (e2 : c ≠ 98) (e3 : c ≠ 99) : RT T L h2 := by
  have z := e.1 97 (fun z => e1 z.symm)
  exact r.mv (by rw [z]) (by rw [z]) (by rw [z]) (e.1 _ (fun z => e2 z.symm)) (e.1 _ (fun z => e3 z.symm))
theorem lk_kd {T : Nat → Int} {L p : Nat} (x : txOK T L) : fiN 137 4 (lkG T L p) 4 0 = kdF T L p := by
  rw [fi130]
  unfold kdF
  by_cases q1 : sgF T L p 115
  · rw [if_pos q1, if_pos ((lk_sg x (by omega) (by omega)).2 q1)]
  · rw [if_neg q1, if_neg (fun z => q1 ((lk_sg x (by omega) (by omega)).1 z))]
    by_cases q2 : sgF T L p 104
    · rw [if_pos q2, if_pos ((lk_sg x (by omega) (by omega)).2 q2)]
    · rw [if_neg q2, if_neg (fun z => q2 ((lk_sg x (by omega) (by omega)).1 z))]
      by_cases q3 : sgF T L p 119
      · rw [if_pos q3, if_pos ((lk_sg x (by omega) (by omega)).2 q3)]
      · rw [if_neg q3, if_neg (fun z => q3 ((lk_sg x (by omega) (by omega)).1 z))]
        by_cases q4 : sgF T L p 110
        · rw [if_pos q4, if_pos ((lk_sg x (by omega) (by omega)).2 q4)]
        · rw [if_neg q4, if_neg (fun z => q4 ((lk_sg x (by omega) (by omega)).1 z))]
def flF (o : Nat × Option (Int × Int × Int × Int)) : Int := if o.2.isSome = true then -1 else (o.1 : Int)
theorem m_readStep {T : Nat → Int} {L : Nat} {G : MH} (r : RT T L G) (L9 : L ≤ 240) (d : Nat) {a s : Nat} (ha : a ≤ L) (hs : s + 4 ≤ 320) : ∃ G2, Run (d + 6) 214 0 [vR 97, .inl (s : Int), vU, vU] [] (mg G a (-1)) = some (none, mg G2 (stpF T L a).1 (flF (stpF T L a))) ∧ stC 108 G G2 s ∧ (∀ w, (stpF T L a).2 = some w → rwE (G2 108) s w) := by
  obtain ⟨p, hp⟩ : ∃ p, p = skF T L a := ⟨_, rfl⟩
  have pL : p ≤ L := by rw [hp]; exact sk_L ha
  have hd := q214_0 (d + 5) (s : Int) (mg G a (-1))
  rw [m_look r _ _ ha, cI_some, ← hp, m_spot130, cI_some, lk_kd r.2] at hd
  unfold stpF
  rw [← hp]
  rcases kd_cases T L p with k0 | ⟨kc, p1⟩
  · rw [k0, if_pos (c := (-1 : Int) = -1) rfl]
    refine ⟨G, ?_, ⟨fun _ _ => rfl, fun _ _ => rfl⟩, fun w hw => by cases hw⟩
    rw [hd, k0, if_neg (fun z => z rfl), m_fails, cI_some, if_pos rfl]
    rfl
  · obtain ⟨k, hk⟩ : ∃ k, k = kdF T L p := ⟨_, rfl⟩
    rw [← hk] at kc hd ⊢
    have dg1 := fun (G2 : MH) (r2 : RT T L G2) => m_digit r2 (by omega) (d + 4) (a := p + 1) (by omega) (m := 9) (by omega)
    rw [if_neg (c := k = -1) (by omega)]
    -- the first digit
    have st1 := hd
    rw [if_pos (by omega), if_pos (by omega), mg_at, wI_ok (x := (p : Int) + 1) (by omega) (by omega), show up (mg G p (-1)) 97 10 ((p : Int) + 1) = mg G (p + 1) (-1) from mg_a G p (p + 1) (-1), show ((s : Nat) : Int).toNat = s by omega, mg_up _ _ _ _ (by omega), dg1 _ (r.up (by omega) (by omega) (by omega)), cI_some, wI_ok (x := (s : Int) + 1) (by omega) (by omega), wI_ok (x := (s : Int) + 2) (by omega) (by omega), wI_ok (x := (s : Int) + 3) (by omega) (by omega), if_pos (by omega), if_pos (by omega), if_pos (by omega), show ((s : Int) + 1).toNat = s + 1 by omega, show ((s : Int) + 2).toNat = s + 2 by omega, show ((s : Int) + 3).toNat = s + 3 by omega] at st1
    by_cases d1 : dgP T L (skF T L (p + 1)) 9
    · have l1 : skF T L (p + 1) + 1 ≤ L := d1.1
      rw [if_pos d1, if_pos d1, mg_up _ _ _ _ (by omega), mg_up _ _ _ _ (by omega), mg_up _ _ _ _ (by omega), mg_fl, if_neg (fun z => z rfl)] at st1
      obtain ⟨G1, hG1⟩ : ∃ G1, G1 = up (up (up (up G 108 s k) 108 (s + 1) (T (skF T L (p + 1)) - 48)) 108 (s + 2) (-1)) 108 (s + 3) (-1) := ⟨_, rfl⟩
      rw [← hG1] at st1
      have c1 : stC 108 G G1 s := by rw [hG1]; exact (((stC.up (by omega)).tr (stC.up (by omega))).tr (stC.up (by omega))).tr (stC.up (by omega))
      have w1 : rwE (G1 108) s (k, T (skF T L (p + 1)) - 48, -1, -1) := by
        rw [hG1]
        refine ⟨?_, ?_, ?_, ?_⟩
        · rw [up_i (by omega), up_i (by omega), up_i (by omega), up_s]
        · rw [up_i (by omega), up_i (by omega), up_s]
        · rw [up_i (by omega), up_s]
        · rw [up_s]
      have r1 := c1.R r (by omega) (by omega) (by omega)
      rw [if_neg (c := ¬ dgP T L (skF T L (p + 1)) 9) (fun z => z d1)]
      by_cases k1 : k = 1
      · rw [if_pos k1]
        refine ⟨G1, ?_, c1, fun w hw => ?_⟩
        · rw [st1, if_neg (fun z => z k1)]
          rfl
        · have hw2 := Option.some.inj hw
          rw [← hw2]
          rw [k1] at w1
          exact w1
      · rw [if_neg k1]
        have st2 : ∀ m : Int, m = (if k = 3 then 9 else 1) → Run (d + 6) 214 0 [vR 97, .inl (s : Int), vU, vU] [] (mg G a (-1)) = Run (d + 6) 214 104 [vR 97, .inl (s : Int), .inl k, vU] [.inl m, vR 97, .inl ((s : Int) + 2), vR 108] (mg G1 (skF T L (p + 1) + 1) (-1)) := by
          intro m hm
          rw [st1, if_pos k1]
          by_cases k3 : k = 3
          · rw [if_neg (fun z => z k3), hm, if_pos k3]
          · rw [if_pos k3, hm, if_neg k3]
        obtain ⟨m, hm⟩ : ∃ m : Int, m = (if k = 3 then 9 else 1) := ⟨_, rfl⟩
        have hmb : 0 ≤ m ∧ m ≤ 9 := by rw [hm]; split <;> omega
        have st3 := st2 m hm
        rw [q214_104 (hz2 := rfl), m_digit r1 (by omega) (d + 4) l1 hmb, cI_some, if_pos (by omega), show ((s : Int) + 2).toNat = s + 2 by omega] at st3
        rw [← hm]
        by_cases d2 : dgP T L (skF T L (skF T L (p + 1) + 1)) m
        · have l2 : skF T L (skF T L (p + 1) + 1) + 1 ≤ L := d2.1
          rw [if_pos d2, if_pos d2, mg_up _ _ _ _ (by omega), mg_fl, if_neg (fun z => z rfl)] at st3
          obtain ⟨G2, hG2⟩ : ∃ G2, G2 = up G1 108 (s + 2) (T (skF T L (skF T L (p + 1) + 1)) - 48) := ⟨_, rfl⟩
          rw [← hG2] at st3
          have c2 : stC 108 G G2 s := by rw [hG2]; exact c1.tr (stC.up (by omega))
          have w2 : rwE (G2 108) s (k, T (skF T L (p + 1)) - 48, T (skF T L (skF T L (p + 1) + 1)) - 48, -1) := by
            obtain ⟨z1, z2, z3, z4⟩ := w1
            rw [hG2]
            exact ⟨by rw [up_i (by omega)]; exact z1, by rw [up_i (by omega)]; exact z2, up_s _ _ _ _, by rw [up_i (by omega)]; exact z4⟩
          have r2 := c2.R r (by omega) (by omega) (by omega)
          rw [if_neg (c := ¬ dgP T L (skF T L (skF T L (p + 1) + 1)) m) (fun z => z d2)]
          by_cases k0 : k = 0
          · rw [if_neg (c := ¬ k = 0) (fun z => z k0)]
            rw [if_pos k0, m_digit r2 (by omega) (d + 4) l2 (m := 9) (by omega), cI_some] at st3
            by_cases d3 : dgP T L (skF T L (skF T L (skF T L (p + 1) + 1) + 1)) 9
            · have l3 : skF T L (skF T L (skF T L (p + 1) + 1) + 1) + 1 ≤ L := d3.1
              rw [if_pos d3, if_pos d3, mg_fl, if_neg (fun z => z rfl), m_digit r2 (by omega) (d + 4) l3 (m := 9) (by omega), cI_some, wI_ok (x := (s : Int) + 3) (by omega) (by omega), if_pos (by omega), show ((s : Int) + 3).toNat = s + 3 by omega] at st3
              rw [if_neg (c := ¬ dgP T L (skF T L (skF T L (skF T L (p + 1) + 1) + 1)) 9) (fun z => z d3)]
              by_cases d4 : dgP T L (skF T L (skF T L (skF T L (skF T L (p + 1) + 1) + 1) + 1)) 9
              · rw [if_pos d4, if_pos d4, mg_up _ _ _ _ (by omega), wI_ok (x := 10 * (T (skF T L (skF T L (skF T L (p + 1) + 1) + 1)) - 48)) (by have := d3.2; omega) (by have := d3.2; omega), wI_ok (by have := d3.2; have := d4.2; omega) (by have := d3.2; have := d4.2; omega)] at st3
                rw [if_neg (c := ¬ dgP T L (skF T L (skF T L (skF T L (skF T L (p + 1) + 1) + 1) + 1)) 9) (fun z => z d4)]
                refine ⟨_, st3, c2.tr (stC.up (by omega)), fun w hw => ?_⟩
                have hw2 := Option.some.inj hw
                obtain ⟨z1, z2, z3, z4⟩ := w2
                rw [← hw2]
                exact ⟨by rw [up_i (by omega), z1]; exact k0, by rw [up_i (by omega)]; exact z2, by rw [up_i (by omega)]; exact z3, up_s _ _ _ _⟩
              · rw [if_neg d4, if_neg d4, mg_up _ _ _ _ (by omega)] at st3
                rw [if_pos (c := ¬ dgP T L (skF T L (skF T L (skF T L (skF T L (p + 1) + 1) + 1) + 1)) 9) d4]
                exact ⟨_, st3, c2.tr (stC.up (by omega)), fun w hw => by cases hw⟩
            · have e3 : ¬ ((skF T L (skF T L (skF T L (p + 1) + 1) + 1) : Nat) : Int) = -1 := by omega
              rw [if_neg d3, if_neg d3, mg_fl, if_pos e3] at st3
              rw [if_pos (c := ¬ dgP T L (skF T L (skF T L (skF T L (p + 1) + 1) + 1)) 9) d3]
              exact ⟨_, st3, c2, fun w hw => by cases hw⟩
          · rw [if_pos (c := ¬ k = 0) k0]
            rw [if_neg k0] at st3
            refine ⟨_, st3, c2, fun w hw => ?_⟩
            have hw2 := Option.some.inj hw
            rw [← hw2]
            exact w2
        · have e2 : ¬ ((skF T L (skF T L (p + 1) + 1) : Nat) : Int) = -1 := by omega
          rw [if_neg d2, if_neg d2, mg_up _ _ _ _ (by omega), mg_fl, if_pos e2] at st3
          rw [if_pos (c := ¬ dgP T L (skF T L (skF T L (p + 1) + 1)) m) d2]
          exact ⟨_, st3, c1.tr (stC.up (by omega)), fun w hw => by cases hw⟩
    · have e1 : ¬ ((skF T L (p + 1) : Nat) : Int) = -1 := by omega
      rw [if_neg d1, if_neg d1, mg_up _ _ _ _ (by omega), mg_up _ _ _ _ (by omega), mg_up _ _ _ _ (by omega), mg_fl, if_pos e1] at st1
      rw [if_pos (c := ¬ dgP T L (skF T L (p + 1)) 9) d1]
      exact ⟨_, st1, (((stC.up (by omega)).tr (stC.up (by omega))).tr (stC.up (by omega))).tr (stC.up (by omega)), fun w hw => by cases hw⟩
/-! the whole plan -/
def plnF (T : Nat → Int) (L : Nat) : Nat → Nat → Int × List (Int × Int × Int × Int)
  | 0, a => ((a : Int), [])
  | r + 1, a => match stpF T L a with
    | (a2, none) => ((a2 : Int), [])
    | (a2, some w) => if ¬ skF T L a2 < L then (-1, [w]) else if r = 0 then ((skF T L a2 : Int), []) else if T (skF T L a2) = 59 then ((plnF T L r (skF T L a2 + 1)).1, w :: (plnF T L r (skF T L a2 + 1)).2) else ((skF T L a2 : Int), [])
def rwL (D : Nat → Int) : Nat → List (Int × Int × Int × Int) → Prop
  | _, [] => True
  | s, w :: ws => rwE D s w ∧ rwL D (s + 4) ws
theorem rwL_c {D D2 : Nat → Int} : ∀ (ws : List (Int × Int × Int × Int)) (s : Nat), (∀ j, s ≤ j → D2 j = D j) → rwL D s ws → rwL D2 s ws
  | [], _, _, _ => trivial
  | w :: ws, s, e, h => ⟨⟨by rw [e _ (by omega)]; exact h.1.1, by rw [e _ (by omega)]; exact h.1.2.1, by rw [e _ (by omega)]; exact h.1.2.2.1, by rw [e _ (by omega)]; exact h.1.2.2.2⟩, rwL_c ws (s + 4) (fun j hj => e j (by omega)) h.2⟩
theorem stp_L {T : Nat → Int} {L a : Nat} (ha : a ≤ L) : (stpF T L a).1 ≤ L := by
  have s0 := sk_L (T := T) ha
  have go : ∀ p, p + 1 ≤ L → skF T L (p + 1) ≤ L := fun p hp => sk_L hp
  unfold stpF
  rcases kd_cases T L (skF T L a) with k0 | ⟨kc, p1⟩
  · rw [if_pos k0]; exact s0
  · rw [if_neg (c := kdF T L (skF T L a) = -1) (by omega)]
    by_cases d1 : dgP T L (skF T L (skF T L a + 1)) 9
    · rw [if_neg (c := ¬ dgP T L (skF T L (skF T L a + 1)) 9) (fun z => z d1)]
      generalize (if kdF T L (skF T L a) = 3 then (9 : Int) else 1) = m
      split
      · exact d1.1
      · split
        · exact go _ d1.1
        · rename_i d2
          have d2' := Classical.not_not.1 d2
          split
          · exact d2'.1
          · split
            · exact go _ d2'.1
            · rename_i d3
              have d3' := Classical.not_not.1 d3
              split
              · exact go _ d3'.1
              · rename_i d4
                exact (Classical.not_not.1 d4).1
    · rw [if_pos (c := ¬ dgP T L (skF T L (skF T L a + 1)) 9) d1]
      exact go _ p1
theorem e_readPlan {T : Nat → Int} {L : Nat} (d : Nat) : ∀ (r i a : Nat) (h : MH), i + r = 16 → 1 ≤ r → a ≤ L → TC T L h → ∃ h2 a2, Run (d + 5) 38 10 [vR 7, .inl (i : Int)] [] (ca h a) = some (some (.inl (plnF T L r a).1), ca h2 a2) ∧ (∀ c, c ≠ 37 → c ≠ 7 → h2 c = h c) ∧ (∀ j, j ≠ 4 → h2 7 j = h 7 j) ∧ (∀ j, j < 4 * i → h2 37 j = h 37 j) ∧ ((plnF T L r a).1 = -1 → h2 7 4 = (i + (plnF T L r a).2.length : Nat) ∧ rwL (h2 37) (4 * i) (plnF T L r a).2) := by
  intro r
  induction r with
  | zero => intro i a h hi h1; omega
  | succ r ih =>
    intro i a h hi h1 ha t
    obtain ⟨h1, r1, r2, r3⟩ := e_readStep t d (a := a) (s := 4 * i) ha (by omega)
    have hd := q38_10 (d + 4) (i : Int) (ca h a)
    rw [if_neg (by omega), wI_ok (x := (i : Int) * 4) (by omega) (by omega), show (i : Int) * 4 = ((4 * i : Nat) : Int) by omega, r1, cI_some, wI_ok (x := (i : Int) + 1) (by omega) (by omega)] at hd
    have lL := stp_L (T := T) ha
    have fr : ∀ (hX : MH), (∀ c, c ≠ 37 → c ≠ 7 → (∀ c, c ≠ 37 → hX c = h c) → hX c = h c) := fun hX c c1 _ e => e c c1
    unfold plnF
    cases hst : stpF T L a with
    | mk a2 o =>
      rw [hst] at hd lL r3
      cases o with
      | none =>
        rw [bi_f (by exact Bool.false_ne_true), if_neg (fun z => z rfl), ca_at] at hd
        refine ⟨h1, a2, hd, fun c c1 _ => r2.1 c c1, fun j _ => by rw [r2.1 _ (by omega)], fun j hj => r2.2 j (Or.inl hj), fun z => ?_⟩
        exact absurd z (by show ¬ ((a2 : Nat) : Int) = -1; omega)
      | some w =>
        have t1 : TC T L (up h1 7 4 ((i : Int) + 1)) := (r2.T t (by omega) (by omega)).up (by omega) (by omega)
        rw [bi_t (by rfl), if_pos (by omega), ca_up _ _ _ (by omega), e_nextT t1 (d + 4) lL, cI_some] at hd
        have sL := sk_L (T := T) (show a2 ≤ L from lL)
        have ep : up h1 7 4 ((i : Int) + 1) 37 = h1 37 := up_ne (by omega)
        have w1 : rwE (up h1 7 4 ((i : Int) + 1) 37) (4 * i) w := by rw [ep]; exact r3 w rfl
        have o1 : ∀ c, c ≠ 37 → c ≠ 7 → up h1 7 4 ((i : Int) + 1) c = h c := fun c c1 c2 => by rw [up_ne c2, r2.1 c c1]
        have o2 : ∀ j, j ≠ 4 → up h1 7 4 ((i : Int) + 1) 7 j = h 7 j := fun j hj => by rw [up_i hj, r2.1 _ (by omega)]
        have o3 : ∀ j, j < 4 * i → up h1 7 4 ((i : Int) + 1) 37 j = h 37 j := fun j hj => by rw [ep]; exact r2.2 j (Or.inl hj)
        dsimp only
        by_cases q1 : skF T L a2 < L
        · rw [if_pos (fun z => (ng_end t.2).1 z q1)] at hd
          rw [if_neg (fun z => z q1)]
          by_cases q2 : r = 0
          · rw [if_pos (by rw [ca_ne _ _ (by omega), up_s]; omega), ca_at] at hd
            rw [if_pos q2]
            refine ⟨_, skF T L a2, hd, o1, o2, o3, fun z => ?_⟩
            exact absurd z (by show ¬ ((skF T L a2 : Nat) : Int) = -1; omega)
          · rw [if_neg (by rw [ca_ne _ _ (by omega), up_s]; omega), e_take t1 (d + 3) sL (by omega), cI_some, sk_sk (show a2 ≤ L from lL)] at hd
            rw [if_neg q2]
            by_cases q3 : T (skF T L a2) = 59
            · rw [bi_t ⟨q1, q3⟩, if_pos (by omega), if_pos ⟨q1, q3⟩] at hd
              rw [if_pos q3]
              obtain ⟨h3, a3, u1, u2, u3, u4, u5⟩ := ih (i + 1) (skF T L a2 + 1) (up h1 7 4 ((i : Int) + 1)) (by omega) (by omega) (by omega) t1
              refine ⟨h3, a3, hd.trans u1, fun c c1 c2 => by rw [u2 c c1 c2, o1 c c1 c2], fun j hj => by rw [u3 j hj, o2 j hj], fun j hj => by rw [u4 j (by omega), o3 j hj], fun z => ?_⟩
              obtain ⟨v1, v2⟩ := u5 z
              refine ⟨by rw [v1]; show ((i + 1 + (plnF T L r (skF T L a2 + 1)).2.length : Nat) : Int) = ((i + ((plnF T L r (skF T L a2 + 1)).2.length + 1) : Nat) : Int); omega, ?_, by rw [show 4 * i + 4 = 4 * (i + 1) by omega]; exact v2⟩
              obtain ⟨z1, z2, z3, z4⟩ := w1
              exact ⟨by rw [u4 _ (by omega)]; exact z1, by rw [u4 _ (by omega)]; exact z2, by rw [u4 _ (by omega)]; exact z3, by rw [u4 _ (by omega)]; exact z4⟩
            · rw [bi_f (fun z => q3 z.2), if_neg (fun z => z rfl), if_neg (fun z => q3 z.2), ca_at] at hd
              rw [if_neg q3]
              refine ⟨_, skF T L a2, hd, o1, o2, o3, fun z => ?_⟩
              exact absurd z (by show ¬ ((skF T L a2 : Nat) : Int) = -1; omega)
        · rw [if_neg (fun z => z ((ng_end t.2).2 q1))] at hd
          rw [if_pos q1]
          refine ⟨_, skF T L a2, hd, o1, o2, o3, fun _ => ⟨?_, w1, trivial⟩⟩
          rw [up_s]
          rfl
theorem m_readPlan {T : Nat → Int} {L : Nat} (L9 : L ≤ 240) (d : Nat) : ∀ (r i a : Nat) (G : MH), i + r = 16 → 1 ≤ r → a ≤ L → RT T L G → ∃ G2 a2, Run (d + 7) 213 17 [vR 97, .inl (i : Int), .inl 1] [] (mg G a (-1)) = some (none, mg G2 a2 (plnF T L r a).1) ∧ (∀ c, c ≠ 108 → c ≠ 109 → G2 c = G c) ∧ (∀ j, j ≠ 4 → G2 109 j = G 109 j) ∧ (∀ j, j < 256 + 4 * i → G2 108 j = G 108 j) ∧ ((plnF T L r a).1 = -1 → G2 109 4 = (i + (plnF T L r a).2.length : Nat) ∧ rwL (G2 108) (256 + 4 * i) (plnF T L r a).2) := by
  intro r
  induction r with
  | zero => intro i a h hi h1; omega
  | succ r ih =>
    intro i a G hi h1 ha t
    obtain ⟨G1, r1, r2, r3⟩ := m_readStep t L9 d (a := a) (s := 256 + 4 * i) ha (by omega)
    have hd := q213_17 (d + 6) (i : Int) 1 (mg G a (-1))
    rw [if_neg (by omega), wI_ok (x := 64 + (i : Int)) (by omega) (by omega), wI_ok (x := 4 * (64 + (i : Int))) (by omega) (by omega), show 4 * (64 + (i : Int)) = ((256 + 4 * i : Nat) : Int) by omega, r1, cV_some, mg_fl, wI_ok (x := (i : Int) + 1) (by omega) (by omega)] at hd
    have lL := stp_L (T := T) ha
    have t1 : RT T L G1 := r2.R t (by omega) (by omega) (by omega)
    have o1 : ∀ c, c ≠ 108 → c ≠ 109 → G1 c = G c := fun c c1 c2 => r2.1 c c1
    have o2 : ∀ j, j ≠ 4 → G1 109 j = G 109 j := fun j hj => by rw [r2.1 _ (by omega)]
    have o3 : ∀ j, j < 256 + 4 * i → G1 108 j = G 108 j := fun j hj => r2.2 j (Or.inl hj)
    unfold plnF
    cases hst : stpF T L a with
    | mk a2 o =>
      rw [hst] at hd lL r3
      have sL := sk_L (T := T) (show a2 ≤ L from lL)
      cases o with
      | none =>
        have e : flF (a2, none) = (a2 : Int) := rfl
        rw [e, if_neg (by omega)] at hd
        refine ⟨G1, a2, hd, o1, o2, o3, fun z => ?_⟩
        exact absurd z (by show ¬ ((a2 : Nat) : Int) = -1; omega)
      | some w =>
        have e : flF (a2, some w) = -1 := rfl
        rw [e, if_pos rfl] at hd
        have lk := m_look t1 (d + 6) (-1) (show a2 ≤ L from lL)
        have hd2 := hd.trans (congrArg (fun t => cI t _) lk)
        rw [cI_some] at hd2
        have w1 := r3 w rfl
        dsimp only
        by_cases q1 : skF T L a2 < L
        · rw [if_neg (fun z => z q1)]
          by_cases q3 : T (skF T L a2) = 59
          · rw [if_neg (fun z => z ((lk_sg t.2 (by omega) (by omega)).2 ⟨q1, q3⟩)), q213_57 (hz1 := rfl), if_neg (by omega)] at hd2
            by_cases q2 : r = 0
            · rw [if_neg (fun z => z (by omega)), m_fails, cI_some, if_pos rfl] at hd2
              rw [if_pos q2]
              refine ⟨G1, skF T L a2, hd2, o1, o2, o3, fun z => ?_⟩
              exact absurd z (by show ¬ ((skF T L a2 : Nat) : Int) = -1; omega)
            · rw [if_pos (by omega), if_neg (by omega), mg_at, wI_ok (by omega) (by omega), show up (mg G1 (skF T L a2) (-1)) 97 10 ((skF T L a2 : Int) + 1) = mg G1 (skF T L a2 + 1) (-1) from mg_a G1 _ (skF T L a2 + 1) (-1)] at hd2
              rw [if_neg q2, if_pos q3]
              obtain ⟨G3, a3, u1, u2, u3, u4, u5⟩ := ih (i + 1) (skF T L a2 + 1) G1 (by omega) (by omega) (by omega) t1
              refine ⟨G3, a3, hd2.trans u1, fun c c1 c2 => by rw [u2 c c1 c2, o1 c c1 c2], fun j hj => by rw [u3 j hj, o2 j hj], fun j hj => by rw [u4 j (by omega), o3 j hj], fun z => ?_⟩
              obtain ⟨v1, v2⟩ := u5 z
              refine ⟨by rw [v1]; show ((i + 1 + (plnF T L r (skF T L a2 + 1)).2.length : Nat) : Int) = ((i + ((plnF T L r (skF T L a2 + 1)).2.length + 1) : Nat) : Int); omega, ?_, by rw [show 256 + 4 * i + 4 = 256 + 4 * (i + 1) by omega]; exact v2⟩
              obtain ⟨z1, z2, z3, z4⟩ := w1
              exact ⟨by rw [u4 _ (by omega)]; exact z1, by rw [u4 _ (by omega)]; exact z2, by rw [u4 _ (by omega)]; exact z3, by rw [u4 _ (by omega)]; exact z4⟩
          · have ne : ¬ lkG T L (skF T L a2) = 59 := fun z => q3 ((lk_sg t.2 (by omega) (by omega)).1 z).2
            have t2 : RT T L (up G1 109 4 ((i : Int) + 1)) := t1.up (by omega) (by omega) (by omega)
            rw [if_pos ne, q213_57 (hz1 := rfl), if_pos rfl, if_pos rfl, q213_17 (d + 6) ((i : Int) + 1) 0, if_pos rfl, mg_up _ _ _ _ (by omega), m_look t2 _ _ sL, cI_some, sk_sk (show a2 ≤ L from lL), if_neg (fun z => (lk_end t.2).1 z q1), m_fails, cI_some, if_pos rfl] at hd2
            have ef : (if r = 0 then ((skF T L a2 : Int), []) else if T (skF T L a2) = 59 then ((plnF T L r (skF T L a2 + 1)).1, w :: (plnF T L r (skF T L a2 + 1)).2) else ((skF T L a2 : Int), [])) = ((skF T L a2 : Int), []) := by rw [if_neg q3]; split <;> rfl
            rw [ef]
            refine ⟨_, skF T L a2, hd2, fun c c1 c2 => by rw [up_ne c2, o1 c c1 c2], fun j hj => by rw [up_i hj, o2 j hj], fun j hj => by rw [up_a (by omega), o3 j hj], fun z => ?_⟩
            exact absurd z (by show ¬ ((skF T L a2 : Nat) : Int) = -1; omega)
        · have ne : ¬ lkG T L (skF T L a2) = 59 := fun z => q1 ((lk_sg t.2 (by omega) (by omega)).1 z).1
          have t2 : RT T L (up G1 109 4 ((i : Int) + 1)) := t1.up (by omega) (by omega) (by omega)
          rw [if_pos ne, q213_57 (hz1 := rfl), if_pos rfl, if_pos rfl, q213_17 (d + 6) ((i : Int) + 1) 0, if_pos rfl, mg_up _ _ _ _ (by omega), m_look t2 _ _ sL, cI_some, sk_sk (show a2 ≤ L from lL), if_pos ((lk_end t.2).2 q1)] at hd2
          rw [if_pos q1]
          refine ⟨_, skF T L a2, hd2, fun c c1 c2 => by rw [up_ne c2, o1 c c1 c2], fun j hj => by rw [up_i hj, o2 j hj], fun j hj => by rw [up_a (by omega), o3 j hj], fun _ => ⟨by rw [up_s]; rfl, ?_, trivial⟩⟩
          obtain ⟨z1, z2, z3, z4⟩ := w1
          exact ⟨by rw [up_a (by omega)]; exact z1, by rw [up_a (by omega)]; exact z2, by rw [up_a (by omega)]; exact z3, by rw [up_a (by omega)]; exact z4⟩
