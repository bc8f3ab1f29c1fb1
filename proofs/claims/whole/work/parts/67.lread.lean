/-! a league's text: the class -/
theorem bi_c2 {c e : Prop} [Decidable c] [Decidable e] (q : c ↔ e) {h : MH} : (some (some (.inl (bi c)), h) : Option (Option MV × MH)) = some (some (.inl (bi e)), h) := by rw [bi_congr q]
theorem e_isWhole (d : Nat) {S : LgS} {h : MH} (b : lsB S) (s : dfC S h) : Run (d + 1) 17 0 [vR 4, vU, vU] [] h = some (some (.inl (bi (whP S))), h) := by
  obtain ⟨s1, s2, s3, s4, s5, s6⟩ := s
  obtain ⟨b1, b2, b3, b4, b5⟩ := b
  have c64 : ∀ (r i : Nat) (z : MV), cat z = 1 → i + r = S.2.2.2.1 → Run (d + 1) 17 64 [vR 4, .inl (i : Int), z] [] h = some (some (.inl (bi (∀ k, k < S.2.2.2.1 → i ≤ k → S.2.2.2.2 (3 * k + 2) < S.2.2.1.1))), h) := by
    intro r
    induction r with
    | zero =>
      intro i z hz hi
      rw [q17_64 (hz1 := hz), s3, if_pos (by omega), bi_t (fun k h1 h2 => by omega)]
    | succ r ih =>
      intro i z hz hi
      have bb := b5 i 2 (by omega) (by omega)
      have r0 := ro_b (k := 7 + 2) (by omega)
      rw [q17_64 (hz1 := hz), s3, if_neg (by omega), q19_0_1, wI_ok (x := (i : Int) * 3) (by omega) (by omega), wI_ok (x := (i : Int) * 3 + 2) (by omega) (by omega), if_pos (by omega), cI_some, show ((i : Int) * 3 + 2).toNat = 3 * i + 2 by omega, s6 (3 * i + 2) (by omega), q20_0_1, s2, if_neg (by omega)]
      by_cases q : S.2.2.2.2 (3 * i + 2) < S.2.2.1.1
      · rw [if_neg (by omega), cI_some, if_pos (by omega), wI_ok (by omega) (by omega)]
        have := ih (i + 1) z hz (by omega)
        rw [show ((i + 1 : Nat) : Int) = (i : Int) + 1 by omega] at this
        rw [this]
        refine bi_c2 ?_
        refine ⟨fun g k h1 h2 => ?_, fun g k h1 h2 => g k h1 (by omega)⟩
        by_cases z : k = i
        · rw [z]; exact q
        · exact g k h1 (by omega)
      · rw [if_pos (by omega), cI_some, if_neg (fun z => z rfl), bi_f (fun g => q (g i (by omega) (Nat.le_refl _)))]
  have c30 : ∀ (r j i : Nat), i < S.2.2.1.1 → j + r = i → (∀ k, k < j → S.2.2.1.2 (3 * i) ≠ S.2.2.1.2 (3 * k)) → Run (d + 1) 17 30 [vR 4, .inl (i : Int), .inl (j : Int)] [] h = if (∀ k, k < i → S.2.2.1.2 (3 * i) ≠ S.2.2.1.2 (3 * k)) then Run (d + 1) 17 20 [vR 4, .inl ((i + 1 : Nat) : Int), .inl (i : Int)] [] h else some (some (.inl 0), h) := by
    intro r
    induction r with
    | zero =>
      intro j i hi hj hk
      have : j = i := by omega
      subst this
      rw [q17_30, if_pos (by omega), wI_ok (by omega) (by omega), if_pos hk]
      rfl
    | succ r ih =>
      intro j i hi hj hk
      rw [q17_30, if_neg (by omega), q18_0_1, wI_ok (x := (i : Int) * 3) (by omega) (by omega), if_pos (by omega), cI_some, q18_0_1, wI_ok (x := (j : Int) * 3) (by omega) (by omega), if_pos (by omega), cI_some, show ((i : Int) * 3).toNat = 3 * i by omega, show ((j : Int) * 3).toNat = 3 * j by omega, s5 (3 * i) (by omega), s5 (3 * j) (by omega)]
      by_cases q : S.2.2.1.2 (3 * i) = S.2.2.1.2 (3 * j)
      · rw [if_neg (fun z => z q), if_neg (fun g => g j (by omega) q)]
      · rw [if_pos q, wI_ok (by omega) (by omega)]
        have := ih (j + 1) i hi (by omega) (fun k h1 => by
          by_cases z : k = j
          · rw [z]; exact q
          · exact hk k (by omega))
        rw [show ((j + 1 : Nat) : Int) = (j : Int) + 1 by omega] at this
        exact this
  have c20 : ∀ (r i : Nat) (z : MV), cat z = 1 → i + r = S.2.2.1.1 → Run (d + 1) 17 20 [vR 4, .inl (i : Int), z] [] h = some (some (.inl (bi ((∀ k, k < S.2.2.1.1 → i ≤ k → ∀ j, j < k → S.2.2.1.2 (3 * k) ≠ S.2.2.1.2 (3 * j)) ∧ ∀ k, k < S.2.2.2.1 → S.2.2.2.2 (3 * k + 2) < S.2.2.1.1))), h) := by
    intro r
    induction r with
    | zero =>
      intro i z hz hi
      rw [q17_20 (hz1 := hz), s2, if_pos (by omega)]
      have := c64 S.2.2.2.1 0 z hz (by omega)
      have e : Run (d + 1) 17 64 [vR 4, .inl 0, z] [] h = _ := this
      rw [e]
      refine bi_c2 ?_
      exact ⟨fun g => ⟨fun k h1 h2 => by omega, fun k h1 => g k h1 (Nat.zero_le _)⟩, fun g k h1 _ => g.2 k h1⟩
    | succ r ih =>
      intro i z hz hi
      rw [q17_20 (hz1 := hz), s2, if_neg (by omega)]
      have := c30 i 0 i (by omega) (by omega) (fun k h1 => by omega)
      have e : Run (d + 1) 17 30 [vR 4, .inl (i : Int), .inl 0] [] h = _ := this
      rw [e]
      by_cases q : ∀ k, k < i → S.2.2.1.2 (3 * i) ≠ S.2.2.1.2 (3 * k)
      · rw [if_pos q, ih (i + 1) (.inl (i : Int)) rfl (by omega)]
        refine bi_c2 ?_
        refine ⟨fun g => ⟨fun k h1 h2 => ?_, g.2⟩, fun g => ⟨fun k h1 h2 => g.1 k h1 (by omega), g.2⟩⟩
        by_cases z : k = i
        · rw [z]; exact q
        · exact g.1 k h1 (by omega)
      · rw [if_neg q, bi_f (fun g => q (g.1 i (by omega) (Nat.le_refl _)))]
  rw [q17_0, s2, s3]
  by_cases q1 : S.2.2.1.1 < 2
  · rw [if_pos (by omega), bi_f (fun g => by have := g.1.1; omega)]
  · rw [if_neg (by omega)]
    by_cases q2 : 1 ≤ S.2.2.2.1
    · rw [if_pos (by omega)]
      have := c20 S.2.2.1.1 0 vU rfl (by omega)
      have e : Run (d + 1) 17 20 [vR 4, .inl 0, vU] [] h = _ := this
      rw [e]
      refine bi_c2 ?_
      exact ⟨fun g => ⟨⟨by omega, q2⟩, fun i h1 => g.1 i h1 (Nat.zero_le _), g.2⟩, fun g => ⟨fun k h1 _ => g.2.1 k h1, g.2.2⟩⟩
    · rw [if_neg (by omega), bi_f (fun g => q2 g.1.2)]
theorem dfC_ca {S : LgS} {h : MH} (s : dfC S h) (a : Nat) : dfC S (ca h a) := by
  obtain ⟨s1, s2, s3, s4, s5, s6⟩ := s
  exact ⟨by rw [ca_ne _ _ (by omega)]; exact s1, by rw [ca_ne _ _ (by omega)]; exact s2, by rw [ca_ne _ _ (by omega)]; exact s3, by rw [ca_ne _ _ (by omega)]; exact s4, by rw [ca_ne _ _ (by omega)]; exact s5, by rw [ca_ne _ _ (by omega)]; exact s6⟩
theorem frC.tr {h h1 h2 : MH} (e : frC h h1) (f : frC h1 h2) : frC h h2 := fun c c1 c2 c3 c4 c5 => by rw [f c c1 c2 c3 c4 c5, e c c1 c2 c3 c4 c5]
abbrev LCo (h : MH) (o : Nat × Option LgS) (r : Option (Option MV × MH)) : Prop := ∃ h2, r = some (some (.inl (bi (o.2.isSome = true))), ca h2 o.1) ∧ frC h h2 ∧ ∀ S2, o.2 = some S2 → dfC S2 h2
theorem e_readLg {T : Nat → Int} {L : Nat} (d : Nat) : ∀ (r i a : Nat) (S : LgS) (h : MH), i + r = 241 → 241 ≤ a + r → a ≤ L → TC T L h → lsB S → dfC S h →
    ∃ h2, Run (d + 8) 6 39 [vR 3, .inl (i : Int)] [] (ca h a) = some (some (.inl (bi ((lgF T L r a S).2.isSome = true))), ca h2 (lgF T L r a S).1) ∧ frC h h2 ∧ ∀ S2, (lgF T L r a S).2 = some S2 → dfC S2 h2 := by
  intro r
  induction r with
  | zero =>
    intro i a S h hi hr ha t b s
    have := t.1.1
    omega
  | succ r ih =>
    intro i a S h hi hr ha t b s
    have l240 := t.1.1
    obtain ⟨h1, u1, u2, u3⟩ := e_lclause t d ha s b.1 b.2.1
    have cl := cl_L (T := T) (L := L) (S := S) ha
    have hd := q6_39 (d + 7) (i : Int) (ca h a)
    rw [if_neg (by omega), u1, cI_some] at hd
    show LCo h _ _
    unfold lgF
    have cb := fun S2 => cl_b (T := T) (L := L) (a := a) (S2 := S2) b
    generalize clF T L a S = o at u3 cl cb hd ⊢
    obtain ⟨q, o⟩ := o
    have qL : q ≤ L := cl.2
    have qa : a ≤ q := cl.1
    cases o with
    | none =>
      have e : bi ((q, (none : Option LgS)).2.isSome = true) = 0 := rfl
      rw [e, if_neg (fun z => z rfl)] at hd
      exact ⟨h1, hd, u2, fun S2 hS => by cases hS⟩
    | some S3 =>
      have e : bi ((q, some S3).2.isSome = true) = 1 := rfl
      have s3 := u3 S3 rfl
      have b3 := cb S3 rfl
      have t1 := u2.T t
      have sq := sk_le T L q
      rw [e, if_pos (by omega), e_nextT t1 (d + 7) qL, cI_some] at hd
      dsimp only
      by_cases q1 : skF T L q < L
      · rw [if_neg (fun z => z q1)]
        rw [if_pos (fun z => (ng_end t.2).1 z q1), e_take t1 (d + 6) (sk_L qL) (by omega), sk_sk qL, cI_some] at hd
        by_cases q2 : T (skF T L q) = 59
        · have sg : sgF T L (skF T L q) 59 := ⟨q1, q2⟩
          rw [bi_t sg, if_pos sg, if_pos (by omega), wI_ok (by omega) (by omega)] at hd
          rw [if_pos q2]
          obtain ⟨h2, v1, v2, v3⟩ := ih (i + 1) (skF T L q + 1) S3 h1 (by omega) (by omega) q1 t1 b3 s3
          exact ⟨h2, hd.trans v1, u2.tr v2, v3⟩
        · have sg : ¬ sgF T L (skF T L q) 59 := fun z => q2 z.2
          rw [bi_f sg, if_neg sg, if_neg (fun z => z rfl)] at hd
          rw [if_neg q2]
          exact ⟨h1, hd, u2, fun S2 hS => by cases hS⟩
      · rw [if_neg (fun z => z ((ng_end t.2).2 q1)), e_isWhole (d + 6) b3 (dfC_ca s3 _), cI_some, if_pos (bi_01 _)] at hd
        rw [if_pos q1]
        by_cases q2 : whP S3
        · rw [if_pos q2]
          rw [bi_t q2] at hd
          refine ⟨h1, hd, u2, fun S2 hS => ?_⟩
          have := Option.some.inj hS
          rw [← this]
          exact s3
        · rw [if_neg q2]
          rw [bi_f q2] at hd
          exact ⟨h1, hd, u2, fun S2 hS => by cases hS⟩
theorem cpy_ca (h : MH) (a : Nat) {f : Nat → Int} {c i j n : Nat} (e : c ≠ 1) : cpy (ca h a) f c i j n = ca (cpy h f c i j n) a := by
  funext x y
  by_cases q : x = c
  · subst q; rw [cpy_at, ca_ne _ _ e, ca_ne _ _ e, cpy_at]
  · rw [cpy_ne q]
    unfold ca
    by_cases q2 : x = 1
    · subst q2
      by_cases q3 : y = 2
      · subst q3; rw [up_s, up_s]
      · rw [up_i q3, up_i q3, cpy_ne q]
    · rw [up_a q2, up_a q2, cpy_ne q]
theorem e_leagueTape {T : Nat → Int} {L : Nat} {h : MH} (t : TC T L h) (d : Nat) :
    ∃ h2 a2, Run (d + 9) 5 0 [vR 3] [] h = some (some (.inl (flO (lgF T L 241 0 lsZ))), ca h2 a2) ∧ frC h h2 ∧ ∀ S2, (lgF T L 241 0 lsZ).2 = some S2 → dfC S2 h2 := by
  have hd := q5_0 (d + 8) h
  have e0 : up h 1 2 0 = ca h 0 := rfl
  rw [e0, q6_0, ca_up _ _ _ (by omega), ca_up _ _ _ (by omega), ca_up _ _ _ (by omega), cpy_ca _ _ (by omega)] at hd
  obtain ⟨h2, u1, u2, u3⟩ := e_readLg (T := T) (L := L) d 241 0 0 lsZ (cpy (up (up (up h 3 2 0) 4 3 0) 4 4 0) (ro 121) 19 0 0 4) (by omega) (by omega) (by omega) (t.mv (by rw [cpy_ne (by omega), up_a (by omega), up_a (by omega), up_a (by omega)]) (by rw [cpy_ne (by omega), up_ne (by omega), up_ne (by omega), up_ne (by omega)])) lsZ_b ⟨by rw [cpy_ne (by omega), up_a (by omega), up_a (by omega), up_s]; rfl, by rw [cpy_ne (by omega), up_i (by omega), up_s]; rfl, by rw [cpy_ne (by omega), up_s]; rfl, fun k hk => by
      rw [cpy_at]
      show (if 0 ≤ k ∧ k < 0 + 4 then ro 121 (0 + (k - 0)) else _) = ro 121 k
      rw [if_pos (by omega), show 0 + (k - 0) = k by omega], fun j hj => absurd hj (by show ¬ j < 0; omega), fun j hj => absurd hj (by show ¬ j < 0; omega)⟩
  have u1' : Run (d + 8) 6 39 [vR 3, .inl 0] [] (ca (cpy (up (up (up h 3 2 0) 4 3 0) 4 4 0) (ro 121) 19 0 0 4) 0) = _ := u1
  rw [u1', cI_some] at hd
  have fr : frC h h2 := fun c c1 c2 c3 c4 c5 => by rw [u2 c c1 c2 c3 c4 c5, cpy_ne c3, up_ne c2, up_ne c2, up_ne c1]
  unfold flO
  by_cases q : (lgF T L 241 0 lsZ).2.isSome = true
  · rw [bi_t q, if_neg (by omega)] at hd
    rw [if_pos q]
    exact ⟨h2, _, hd, fr, u3⟩
  · rw [bi_f q, if_pos rfl, ca_at] at hd
    rw [if_neg q]
    exact ⟨h2, _, hd, fr, u3⟩
